-- the state beside the tree's own cells
def Lo (E : Nat) (L : List Nat) : Prop := ∀ x, Fp 3 E L x → (3 ≤ x ∧ x < 14) ∨ 60 ≤ x
def Ts (σ : Hp) (E : Nat) (L : List Nat) (V : Vt) : Prop := St σ 3 E L V ∧ Tv σ V ∧ Wn σ ∧ Lo E L ∧ 60 ≤ σ.nx ∧ Pn σ E L ≤ NXc ∧ Pu σ E L ≤ UXc
def Tq (σ : Hp) (E : Nat) (L : List Nat) (σ' : Hp) (E' : Nat) (L' : List Nat) : Prop := Df (fun x => Fp 3 E L x ∨ At x) σ σ' ∧ (∀ x, x < σ.nx → Fp 3 E' L' x → Fp 3 E L x) ∧ (∀ k x : Nat, L[k]? = some x → L'[k]? = some x) ∧ Pn σ' E' L' ≤ Pn σ E L ∧ Pu σ' E' L' ≤ Pu σ E L
section TS
variable {σ σ1 σ2 : Hp} {E E1 E2 : Nat} {L L1 L2 : List Nat} {V : Vt}
theorem Tq.rfl : Tq σ E L σ E L := ⟨Df.rfl, fun _ _ q => q, fun _ _ q => q, Nat.le_refl _, Nat.le_refl _⟩
theorem Tq.tr (h : Tq σ E L σ1 E1 L1) (g : Tq σ1 E1 L1 σ2 E2 L2) : Tq σ E L σ2 E2 L2 := by
  obtain ⟨a1, a2, a3, a4, a5⟩ := h
  obtain ⟨b1, b2, b3, b4, b5⟩ := g
  have := a1.1
  exact ⟨a1.trans b1 (fun x hx q => q.elim (fun q => Or.inl (a2 x hx q)) Or.inr), fun x hx q => a2 x hx (b2 x (by omega) q), fun k x q => b3 k x (a3 k x q), Nat.le_trans b4 a4, Nat.le_trans b5 a5⟩
theorem Lo.at {x : Nat} (h : Lo E L) (q : Fp 3 E L x) : ¬ At x := fun z => by
  have := h x q
  unfold At at z
  omega
theorem Lo.pg {a k : Nat} (h : Lo E L) (ha : L[k]? = some a) : a + 3 < 23 ∨ 26 < a := by
  have m := List.mem_of_getElem? ha
  have q0 := h a (Or.inr (Or.inr ⟨a, m, ⟨Nat.le_refl _, by omega⟩⟩))
  have q3 := h (a + 3) (Or.inr (Or.inr ⟨a, m, ⟨by omega, Nat.le_refl _⟩⟩))
  omega
theorem Ts.dn (h : Ts σ E L V) (d : Dn At σ σ1) : Ts σ1 E L V ∧ Tq σ E L σ1 E L := by
  obtain ⟨h1, h2, h3, h4, h5, h6, h7⟩ := h
  have e1 : Pn σ1 E L = Pn σ E L := by unfold Pn; rw [d.1.2.1, d.1.2.2.2.2.1]
  have e2 : Pu σ1 E L = Pu σ E L := by unfold Pu; rw [d.1.2.1, d.1.2.2.2.2.2]
  exact ⟨⟨h1.dn d (fun x q => h4.at q), h2.dn d (fun q => by unfold At at q; omega), d.wn h3, h4, by rw [d.1.2.2.2.2.1]; exact h5, by rw [e1]; exact h6, by rw [e2]; exact h7⟩, d.df.mono (fun x _ q => Or.inr q), fun _ _ q => q, fun _ _ q => q, Nat.le_of_eq e1, Nat.le_of_eq e2⟩
/-- pages are written -/
theorem Ts.pgs {A : Nat → Prop} {P' : Nat → Pg} (h : Ts σ E L V) (d : Dm A σ σ1) (hA : ∀ x, A x → ∃ a, a ∈ L ∧ Ap a x) (hp : ∀ q b, q < V.U → L[q]? = some b → PC σ1 b (P' q)) (hg : ∀ b ∈ L, PG σ1 b) : Ts σ1 E L (mkV V.W V.T V.M V.C V.U V.R P') ∧ Tq σ E L σ1 E L := by
  obtain ⟨h1, h2, h3, h4, h5, h6, h7⟩ := h
  have lo : ∀ x, A x → (3 ≤ x ∧ x < 14) ∨ 60 ≤ x := fun x q => by
    obtain ⟨a, m, r⟩ := hA x q
    exact h4 x (Or.inr (Or.inr ⟨a, m, r⟩))
  have e1 : Pn σ1 E L = Pn σ E L := by unfold Pn; rw [d.2.1, d.2.2.2.2]
  have e2 : Pu σ1 E L = Pu σ E L := by unfold Pu; rw [d.2.2.1, d.2.2.2.2]
  obtain ⟨a1, ⟨a2, a3⟩, a4, a5, a6, a7, a8⟩ := id h1
  have hd : ∀ x, 3 ≤ x → x ≤ 8 → ¬ A x := fun x q1 q2 q => by
    obtain ⟨a, m, r⟩ := hA x q
    have := pg_hd (a6 a m) a1 h1.kl
    unfold Ap at r
    omega
  have q0 := d.1.2.2 3 (h3.lt h1.ks) (hd 3 (by omega) (by omega))
  have hE : E ≠ 1 → ¬ A E := fun hn q => by
    obtain ⟨a, m, r⟩ := hA E q
    exact pg_row (a6 a m) (h1.E_ne hn) r
  have tv : Tv σ1 V := h2.df h3 d.1 (fun q => by have := lo _ q; omega) (fun q => by have := lo _ q; omega) (fun q => by have := lo _ q; omega)
  exact ⟨⟨⟨a1.df h3 d.1 (fun x q1 q2 => hd x q1 (by omega)), ⟨(q0.1 _).trans a2, (q0.1 _).trans a3⟩, a4.df h3 d.1 (hd 8 (by omega) (by omega)) hE, a5, hg, a7, hp⟩, tv, d.wn h3, h4, by rw [d.2.1]; exact h5, by rw [e1]; exact h6, by rw [e2]; exact h7⟩, d.1.mono (fun x _ q => Or.inl (Or.inr (Or.inr (hA x q)))), fun _ _ q => q, fun _ _ q => q, Nat.le_of_eq e1, Nat.le_of_eq e2⟩
theorem get_inj {l : List Nat} (h : l.Nodup) {i j a : Nat} (h1 : l[i]? = some a) (h2 : l[j]? = some a) : i = j := (List.getElem_inj h).mp (by rw [← Option.some_inj, ← List.getElem?_eq_getElem (get_lt h1), ← List.getElem?_eq_getElem (get_lt h2), h1, h2])
theorem Ts.pg {p a : Nat} {g : Pg} (h : Ts σ E L V) (hp : p < V.U) (ha : L[p]? = some a) (d : Dm (Ap a) σ σ1) (hpc : PC σ1 a g) : Ts σ1 E L (V.sP p g) ∧ Tq σ E L σ1 E L := by
  have m := List.mem_of_getElem? ha
  obtain ⟨a1, ⟨a2, a3⟩, a4, a5, a6, a7, a8⟩ := id h.1
  refine h.pgs d (fun x q => ⟨a, m, q⟩) (fun q b hq hb => ?_) (fun b hb => ?_)
  · by_cases e : q = p
    · subst e
      rw [if_pos rfl]
      rw [ha] at hb
      cases hb
      exact hpc
    · rw [if_neg e]
      have := pg_pg (a6 b (List.mem_of_getElem? hb)) (a6 a m) (fun z => e (get_inj a5 hb (z ▸ ha)))
      exact (a8 q b hq hb).df h.2.2.1 d.1 (fun x q1 q2 q => by unfold Ap at q; omega)
  · by_cases e : b = a
    · rw [e]; exact hpc.1
    · have := pg_pg (a6 b hb) (a6 a m) e
      exact (a6 b hb).df h.2.2.1 d.1 (fun q => by unfold Ap at q; omega)
theorem Ts.take {l : Bool} (h : Ts σ E L V) (hU : V.U < 900) : ∃ σ' E' L', kX7_takePage σ 3 (bI (l = true)) = some (nI V.U, σ') ∧ Ts σ' E' L' ((V.sU (V.U + 1)).sP V.U (mkP l none [])) ∧ Tq σ E L σ' E' L' ∧ (∀ x, At x → (∀ i, σ'.fi i x = σ.fi i x) ∧ σ'.ar x = σ.ar x) := by
  obtain ⟨h1, h2, h3, h4, h5, h6, h7⟩ := h
  obtain ⟨σ', E', L', g1, g2, g3, g4, -⟩ := h1.take (l := l) h3 hU h6 h7
  obtain ⟨b1, b2, b3, b4, b5, b6⟩ := g3
  have nA : ∀ x, At x → ¬ Fp 3 E L x := fun x q z => h4.at z q
  have tv : Tv σ' V := h2.df h3 b2 (nA 23 ⟨by omega, by omega⟩) (fun q => by have := h4 _ q; omega) (fun q => by have := h4 _ q; omega)
  have := b2.1
  refine ⟨σ', E', L', g1, ⟨g2, tv, b1, fun x q => ?_, by omega, by omega, by omega⟩, ⟨b2.mono (fun x _ q => Or.inl q), b3, g4, b5, b6⟩, fun x q => ?_⟩
  · by_cases z : x < σ.nx
    · exact h4 x (b3 x z q)
    · omega
  · have lt : x < σ.nx := by unfold At at q; omega
    have r := b2.2.2 x lt (nA x q)
    exact ⟨r.1, r.2.2.1⟩
/-- what is kept in the tree's own cells while two are sought -/
def Bq (σ s : Hp) : Prop := Dn At σ s ∧ s.ar 24 = σ.ar 24 ∧ s.ar 25 = σ.ar 25
theorem Bq.tr (h : Bq σ σ1) (g : Bq σ1 σ2) : Bq σ σ2 := ⟨h.1.tr g.1, g.2.1.trans h.2.1, g.2.2.trans h.2.2⟩
section SPL
variable {a : Nat} {p : Pg}
theorem c_split31 {k16 : Nat → Nat → Int32 → Int32 → Int32 → Int32 → Hp → Option Hp} (tv : Tv σ V) (hv : Vw V) (pc : PC σ a p) (ha : a + 3 < 23 ∨ 26 < a) (hes : ∀ e ∈ p.es, hs V e.1 ∧ e.2.1 ≤ 9000) {i : Nat} (hi : i < p.es.length) : ∀ (m F j : Nat) (s : Nat × Nat × Nat) (s1 : Hp), m < F → j + m = p.es.length → i < j → Bok p.es.length s → Bq σ s1 → ∃ s2, kX9_split_31 k16 F 23 a (nI s.1) (nI s.2.1) (nI s.2.2) (nI i) (nI j) s1 = k16 23 a (nI (bin (wtw V p.es) i m j s).1) (nI (bin (wtw V p.es) i m j s).2.1) (nI (bin (wtw V p.es) i m j s).2.2) (nI (i + 1)) s2 ∧ Bq σ s2
  | m, 0, _, _, _, h, _, _, _, _ => absurd h (Nat.not_lt_zero m)
  | 0, F + 1, j, s, s1, _, hj, _, _, b => by
    have h7 := pc.le
    have pc1 := pc.dn b.1 (fun x q1 q2 q => by unfold At at q; omega)
    have : j = p.es.length := by omega
    subst this
    rw [kX9_split_31.eq_2, pc1.n, bind_s, if_pos (nI_le (Nat.le_refl _) (by omega)), nI_1]
    exact ⟨s1, rfl, b⟩
  | m + 1, F + 1, j, s, s1, hF, hj, hij, bk, b => by
    have h7 := pc.le
    have tv1 := tv.dn b.1 (fun q => by unfold At at q; omega)
    have pc1 := pc.dn b.1 (fun x q1 q2 q => by unfold At at q; omega)
    have wl := wtw_le hv (fun e he => (hes e he).2) i j
    obtain ⟨s2, g1, g2, g3, g4, g5, g6, g7⟩ := c_weigh tv1 hv pc1 ha hes hi (show j < p.es.length by omega)
    have b2 : Bq σ s2 := b.tr ⟨g2, g7⟩
    have k3 := bk.2.2
    rw [kX9_split_31.eq_2, pc1.n, bind_s, if_neg (nI_ge (by omega) (by omega)), ckd_ok tv1.1.1, g1, bd2_s]
    unfold kX9_split_68 bin
    rw [nI_1]
    show ∃ s2', (if nI s.2.2 ≤ nI (wtw V p.es i j) then _ else _) = _ ∧ _
    by_cases z : wtw V p.es i j < s.2.2
    · rw [if_neg (nI_ge z (by omega)), if_pos z]
      exact c_split31 tv hv pc ha hes hi m F (j + 1) (i, j, wtw V p.es i j) s2 (by omega) (by omega) (by omega) ⟨hij, by show j < _; omega, wl⟩ b2
    · rw [if_pos (nI_le (by omega) (by omega)), if_neg z]
      exact c_split31 tv hv pc ha hes hi m F (j + 1) s s2 (by omega) (by omega) (by omega) bk b2
theorem c_split16 (tv : Tv σ V) (hv : Vw V) (pc : PC σ a p) (ha : a + 3 < 23 ∨ 26 < a) (hes : ∀ e ∈ p.es, hs V e.1 ∧ e.2.1 ≤ 9000) : ∀ (m F i : Nat) (s : Nat × Nat × Nat) (s1 : Hp), m < F → i + m = p.es.length → Bok p.es.length s → Bq σ s1 → ∃ F' s2, kX9_split_16 F 23 a (nI s.1) (nI s.2.1) (nI s.2.2) (nI i) s1 = kX9_split_16 (F' + 1) 23 a (nI (bou (wtw V p.es) p.es.length m i s).1) (nI (bou (wtw V p.es) p.es.length m i s).2.1) (nI (bou (wtw V p.es) p.es.length m i s).2.2) (nI p.es.length) s2 ∧ Bq σ s2
  | m, 0, _, _, _, h, _, _, _ => absurd h (Nat.not_lt_zero m)
  | 0, F + 1, i, s, s1, _, hj, _, b => by
    have : i = p.es.length := by omega
    subst this
    exact ⟨F, s1, rfl, b⟩
  | m + 1, F + 1, i, s, s1, hF, hi, bk, b => by
    have h7 := pc.le
    have pc1 := pc.dn b.1 (fun x q1 q2 q => by unfold At at q; omega)
    rw [kX9_split_16.eq_2, pc1.n, bind_s, if_neg (nI_ge (by omega) (by omega)), nI_1]
    obtain ⟨s2, g1, g2⟩ := c_split31 (k16 := kX9_split_16 F) tv hv pc ha hes (show i < p.es.length by omega) (p.es.length - (i + 1)) FU (i + 1) s s1 (FU_gt (by omega)) (by omega) (by omega) bk b
    rw [g1]
    have bk2 := bin_ok (wtw_le hv (fun e he => (hes e he).2)) (i := i) (p.es.length - (i + 1)) (i + 1) s (by omega) (by omega) bk
    exact c_split16 tv hv pc ha hes m F (i + 1) _ s2 (by omega) (by omega) bk2 g2
/-- the two pages of one -/
def sp1 (V : Vt) (p : Pg) : Pg := mkP p.lf (some (tg p.es (bst V p.es).1)) (pik (fun k => !secB V p.es (bst V p.es).1 (bst V p.es).2.1 k) 0 p.es)
def sp2 (V : Vt) (p : Pg) : Pg := mkP p.lf (some (tg p.es (bst V p.es).2.1)) (pik (secB V p.es (bst V p.es).1 (bst V p.es).2.1) 0 p.es)
def re1 (V : Vt) (p : Pg) : Nat := gr1 V p.es (bst V p.es).1 (bst V p.es).2.1 p.es.length
def re2 (V : Vt) (p : Pg) : Nat := gr2 V p.es (bst V p.es).1 (bst V p.es).2.1 p.es.length
/-- a page is split, its parent not yet told -/
def spV (V : Vt) (p : Nat) : Vt := ((V.sU (V.U + 1)).sP V.U (sp2 V (V.P p))).sP p (sp1 V (V.P p))
set_option maxHeartbeats 1000000 in
theorem c_split (h : Ts σ E L V) (hv : Vw V) {q : Nat} (hq : q < V.U) (ha : L[q]? = some a) (hes : ∀ e ∈ (V.P q).es, hs V e.1 ∧ e.2.1 ≤ 9000) (h2 : 2 ≤ (V.P q).es.length) (hU : V.U < 900) : ∃ σ' E' L', kX9_split σ 23 a = some σ' ∧ Ts σ' E' L' (spV V q) ∧ Tq σ E L σ' E' L' ∧ (σ'.ar 24 = σ.ar 24 ∧ σ'.ar 25 = σ.ar 25) ∧ σ'.fi 905 23 = nI (re1 V (V.P q)) ∧ σ'.fi 906 23 = nI (re2 V (V.P q)) ∧ σ'.fi 907 23 = nI (tg (V.P q).es (bst V (V.P q).es).1) ∧ σ'.fi 908 23 = nI (tg (V.P q).es (bst V (V.P q).es).2.1) ∧ σ'.fi 909 23 = nI V.U := by
  have pc := h.1.2.2.2.2.2.2 q a hq ha
  have tv := h.2.1
  have la := h.2.2.2.1.pg ha
  have h7 := pc.le
  have a23 : At 23 := ⟨by omega, by omega⟩
  have e0 : (0 : Int32) = nI 0 := rfl
  have e1 : (1 : Int32) = nI 1 := rfl
  have wl := wtw_le hv (fun e he => (hes e he).2)
  have bb := bst_ok hv (fun e he => (hes e he).2) h2
  generalize hp : V.P q = p at *
  unfold kX9_split
  obtain ⟨s0, g1, g2, g3, g4, g5, g6, g7⟩ := c_weigh tv hv pc la hes (show 0 < p.es.length by omega) (show 1 < p.es.length by omega)
  rw [ckd_ok tv.1.1, e0, e1, g1, bd2_s]
  obtain ⟨F, s1, k1, k2⟩ := c_split16 tv hv pc la hes p.es.length FU 0 (0, 1, wtw V p.es 0 1) s0 FU_gt (by omega) ⟨by show 0 < 1; omega, by show 1 < p.es.length; omega, wl 0 1⟩ ⟨g2, g7⟩
  have k1 : kX9_split_16 FU 23 a (nI 0) (nI 1) (nI (wtw V p.es 0 1)) (nI 0) s0 = kX9_split_16 (F + 1) 23 a (nI (bst V p.es).1) (nI (bst V p.es).2.1) (nI (bst V p.es).2.2) (nI p.es.length) s1 := k1
  show ∃ σ' E' L', kX9_split_16 FU 23 a (nI 0) (nI 1) (nI (wtw V p.es 0 1)) (nI 0) s0 = some σ' ∧ _
  rw [k1]
  unfold re1 re2
  generalize hb : bst V p.es = b at *
  obtain ⟨i, j, w⟩ := b
  obtain ⟨c1, c2, c3⟩ := bb
  have c1 : i < j := c1
  have c2 : j < p.es.length := c2
  obtain ⟨ei, hei⟩ : ∃ e, p.es[i]? = some e := ⟨_, List.getElem?_eq_getElem (by omega)⟩
  obtain ⟨ej, hej⟩ : ∃ e, p.es[j]? = some e := ⟨_, List.getElem?_eq_getElem (by omega)⟩
  have ti := tg_eq hei
  have tj := tg_eq hej
  obtain ⟨t1, q1⟩ := h.dn k2.1
  have pc1 : PC s1 a p := pc.dn k2.1 (fun x q1 q2 q => by unfold At at q; omega)
  rw [kX9_split_16.eq_2, pc1.n, bind_s, if_pos (nI_le (Nat.le_refl _) (by omega)), ckd_ok t1.2.1.1.1]
  obtain ⟨s2, f1, f2, f3, f4, f5, f6, f7⟩ := c_weigh t1.2.1 hv pc1 la hes (show i < p.es.length by omega) c2
  show ∃ σ' E' L', bd2 (kX9_weigh s1 23 a (nI i) (nI j)) _ = some σ' ∧ _
  rw [f1, bd2_s]
  have pc2 : PC s2 a p := pc1.dn f2 (fun x q1 q2 q => by unfold At at q; omega)
  have tk2 : s2.kd 23 = 19 := (t1.2.1.dn f2 (fun q => by unfold At at q; omega)).1.1
  rw [pc2.1.f1, bind_s, pc2.t hei, bind_s, pfi_ok tk2, bind_s]
  have d3 : Dn At s2 (sfi s2 907 23 (nI ei.1)) := Dn.xi a23
  have pc3 : PC (sfi s2 907 23 (nI ei.1)) a p := pc2.dn d3 (fun x q1 q2 q => by unfold At at q; omega)
  rw [pc3.1.f1, bind_s, pc3.t hej, bind_s, pfi_ok (show (sfi s2 907 23 (nI ei.1)).kd 23 = 19 from tk2), bind_s]
  generalize hs4 : sfi (sfi s2 907 23 (nI ei.1)) 908 23 (nI ej.1) = s4
  have d4 : Dn At s1 s4 := by rw [← hs4]; exact (f2.tr d3).tr (Dn.xi a23)
  obtain ⟨t4, q4⟩ := t1.dn d4
  have pc4 : PC s4 a p := pc1.dn d4 (fun x q1 q2 q => by unfold At at q; omega)
  rw [t4.2.1.st, bind_s, pc4.l, bind_s, t4.1.cs]
  obtain ⟨s5, E', L', m1, m2, m3, m4⟩ := t4.take (l := p.lf) hU
  rw [m1, bd2_s, pfi_ok m2.2.1.1.1, bind_s]
  generalize hs6 : sfi s5 909 23 (nI V.U) = s6
  have d6 : Dn At s5 s6 := by rw [← hs6]; exact Dn.xi a23
  obtain ⟨t6, q6⟩ := m2.dn d6
  obtain ⟨b, hb1, hb2, hb3⟩ := t6.1.pg (show V.U < V.U + 1 by omega)
  have g909 : gfi s6 19 909 23 = some (nI V.U) := by rw [gfi_ok t6.2.1.1.1, ← hs6, fi_sfi, if_pos ⟨rfl, rfl⟩]
  rw [t6.2.1.st, bind_s, g909, bind_s, t6.1.cs, hb3, bind_s, ckd_ok t6.2.1.1.1]
  have ha6 : L'[q]? = some a := m3.2.2.1 q a ha
  have nq : q ≠ V.U := by omega
  have pc6 : PC s6 a p := by
    have := t6.1.2.2.2.2.2.2 q a (show q < V.U + 1 by omega) ha6
    rw [sP_n nq] at this
    rw [← hp]
    exact this
  have pb6 : PC s6 b (mkP p.lf none []) := by
    rw [sP_s] at hb2
    exact hb2
  have ndp := t6.1.2.2.2.1
  have nab : a ≠ b := fun z => nq (get_inj ndp ha6 (z ▸ hb1))
  have mem_a := List.mem_of_getElem? ha6
  have mem_b := List.mem_of_getElem? hb1
  have dab := pg_pg pc6.1 pb6.1 nab
  have lb := t6.2.2.2.1.pg hb1
  have k6 := t6.2.1.1
  have a6 : ∀ x, At x → s6.ar x = s4.ar x := fun x q => by rw [← hs6, ar_sfi]; exact (m4 x q).2
  have fi6 : ∀ x, x ≠ 909 → s6.fi x 23 = s4.fi x 23 := fun x hx => by rw [← hs6, fi_sfi, if_neg (fun y => hx y.1)]; exact (m4 23 a23).1 x
  have r26 : ∀ k, k < p.es.length → s6.ar 26 k = bI (secB V p.es i j k = true) := fun k hk => by rw [a6 26 ⟨by omega, by omega⟩, ← hs4]; exact f5 k hk
  have i907 : s6.fi 907 23 = nI ei.1 := by rw [fi6 907 (by omega), ← hs4, fi_sfi, if_neg (by omega), fi_sfi, if_pos ⟨rfl, rfl⟩]
  have i908 : s6.fi 908 23 = nI ej.1 := by rw [fi6 908 (by omega), ← hs4, fi_sfi, if_pos ⟨rfl, rfl⟩]
  have i905 : s6.fi 905 23 = nI (gr1 V p.es i j p.es.length) := by rw [fi6 905 (by omega), ← hs4, fi_sfi, if_neg (by omega), fi_sfi, if_neg (by omega)]; exact f3
  have i906 : s6.fi 906 23 = nI (gr2 V p.es i j p.es.length) := by rw [fi6 906 (by omega), ← hs4, fi_sfi, if_neg (by omega), fi_sfi, if_neg (by omega)]; exact f4
  have i909 : s6.fi 909 23 = nI V.U := by rw [← hs6, fi_sfi, if_pos ⟨rfl, rfl⟩]
  obtain ⟨s7, o1, o2, o3, o4⟩ := c_part k6.1 t6.2.1.2.1.2.2.2.2.1 k6.2.2.2.2.2.2.2.2.1 k6.2.2.2.2.2.2.2.2.2 pc6 pb6 dab la lb t6.2.2.1 r26 i907 i908
  rw [o1, bind_s]
  have eP1 : sp1 V p = mkP p.lf (some ei.1) (pik (fun k => !secB V p.es i j k) 0 p.es) := by unfold sp1; rw [hb, ← ti]
  have eP2 : sp2 V p = mkP p.lf (some ej.1) (pik (secB V p.es i j) 0 p.es) := by unfold sp2; rw [hb, ← tj]
  obtain ⟨t7, q7⟩ := t6.pgs (P' := (spV V q).P) o4 (fun x z => z.elim (fun z => ⟨a, mem_a, z⟩) (fun z => ⟨b, mem_b, z⟩)) (fun r c hr hc => by
    show PC s7 c (if r = q then sp1 V (V.P q) else if r = V.U then sp2 V (V.P q) else V.P r)
    rw [hp]
    by_cases y1 : r = q
    · rw [if_pos y1, eP1]
      subst y1
      rw [ha6] at hc
      cases hc
      exact o2
    · rw [if_neg y1]
      by_cases y2 : r = V.U
      · rw [if_pos y2, eP2]
        subst y2
        rw [hb1] at hc
        cases hc
        exact o3
      · rw [if_neg y2]
        have hc0 := t6.1.2.2.2.2.2.2 r c hr hc
        rw [sP_n y2] at hc0
        have z1 := pg_pg hc0.1 pc6.1 (fun z => y1 (get_inj ndp hc (z ▸ ha6)))
        have z2 := pg_pg hc0.1 pb6.1 (fun z => y2 (get_inj ndp hc (z ▸ hb1)))
        exact hc0.df t6.2.2.1 o4.1 (fun x q1 q2 q => by unfold Ap at q; omega)) (fun c hc => by
    have hg := t6.1.2.2.2.2.1 c hc
    by_cases y1 : c = a
    · rw [y1]; exact o2.1
    · by_cases y2 : c = b
      · rw [y2]; exact o3.1
      · have z1 := pg_pg hg pc6.1 y1
        have z2 := pg_pg hg pb6.1 y2
        exact hg.df t6.2.2.1 o4.1 (fun q => by unfold Ap at q; omega))
  have w23 := o4.1.2.2 23 (t6.2.2.1.lt k6.1) (fun q => by unfold Ap at q; omega)
  have w24 := o4.1.2.2 24 (t6.2.2.1.lt k6.2.2.2.2.1) (fun q => by unfold Ap at q; omega)
  have w25 := o4.1.2.2 25 (t6.2.2.1.lt k6.2.2.2.2.2.2.1) (fun q => by unfold Ap at q; omega)
  refine ⟨s7, E', L', rfl, t7, (((q1.tr q4).tr m3).tr q6).tr q7, ⟨?_, ?_⟩, (w23.1 _).trans i905, (w23.1 _).trans i906, ?_, ?_, (w23.1 _).trans i909⟩
  · rw [w24.2.2.1, a6 24 ⟨by omega, by omega⟩, ← hs4]
    exact f7.1.trans k2.2.1
  · rw [w25.2.2.1, a6 25 ⟨by omega, by omega⟩, ← hs4]
    exact f7.2.trans k2.2.2
  · show _ = nI (tg p.es i)
    rw [ti]; exact (w23.1 _).trans i907
  · show _ = nI (tg p.es j)
    rw [tj]; exact (w23.1 _).trans i908
end SPL
end TS
