-- the core: state, distances, measures, tree
def Tk (σ : Hp) : Prop := (σ.kd 23 = 19 ∧ σ.kd 24 = 1 ∧ σ.ln 24 = 40 ∧ σ.kd 25 = 1 ∧ σ.ln 25 = 40 ∧ σ.kd 26 = 2 ∧ σ.ln 26 = 7) ∧ (σ.fr 900 23 = 3 ∧ σ.fr 901 23 = 19 ∧ σ.fr 902 23 = 24 ∧ σ.fr 903 23 = 25 ∧ σ.fr 904 23 = 26)
def Lk (σ : Hp) : Prop := σ.kd 2 = 21 ∧ (σ.fr 1100 2 = 3 ∧ σ.fr 1101 2 = 14 ∧ σ.fr 1102 2 = 19 ∧ σ.fr 1103 2 = 23 ∧ σ.fr 1104 2 = 27 ∧ σ.fr 1105 2 = 29 ∧ σ.fr 1106 2 = 33 ∧ σ.fr 1107 2 = 38 ∧ σ.fr 1108 2 = 53 ∧ σ.fr 1109 2 = 58)
def Co (σ : Hp) (E : Nat) (L : List Nat) (V V0 : Vt) : Prop := St σ 3 E L V ∧ Tk σ ∧ (Wn σ ∧ Lo E L ∧ 60 ≤ σ.nx ∧ Pn σ E L ≤ NXc ∧ Pu σ E L ≤ UXc) ∧ Fz σ V0 ∧ (∃ r q, Mo σ r q) ∧ Lk σ
def Kq (σ : Hp) (E : Nat) (L : List Nat) (σ' : Hp) (E' : Nat) (L' : List Nat) : Prop := Df (fun x => Fp 3 E L x ∨ (14 ≤ x ∧ x ≤ 26)) σ σ' ∧ (∀ x, x < σ.nx → Fp 3 E' L' x → Fp 3 E L x) ∧ (∀ k x : Nat, L[k]? = some x → L'[k]? = some x) ∧ Pn σ' E' L' ≤ Pn σ E L ∧ Pu σ' E' L' ≤ Pu σ E L
section COR
variable {σ σ1 σ2 : Hp} {E E1 E2 : Nat} {L L1 L2 : List Nat} {V V0 V' : Vt}
theorem Kq.rfl : Kq σ E L σ E L := ⟨Df.rfl, fun _ _ q => q, fun _ _ q => q, Nat.le_refl _, Nat.le_refl _⟩
theorem Kq.tr (h : Kq σ E L σ1 E1 L1) (g : Kq σ1 E1 L1 σ2 E2 L2) : Kq σ E L σ2 E2 L2 := by
  obtain ⟨a1, a2, a3, a4, a5⟩ := h
  obtain ⟨b1, b2, b3, b4, b5⟩ := g
  have := a1.1
  exact ⟨a1.trans b1 (fun x hx q => q.elim (fun q => Or.inl (a2 x hx q)) Or.inr), fun x hx q => a2 x hx (b2 x (by omega) q), fun k x q => b3 k x (a3 k x q), Nat.le_trans b4 a4, Nat.le_trans b5 a5⟩
theorem Kq.tq (h : Tq σ E L σ1 E1 L1) : Kq σ E L σ1 E1 L1 := ⟨h.1.mono (fun x _ q => q.elim Or.inl (fun z => Or.inr (by unfold At at z; omega))), h.2⟩
theorem Tk.tv (h : Tk σ) (f : Fz σ V) : Tv σ V := by
  obtain ⟨⟨a1, a2, a3, a4, a5, a6, a7⟩, ⟨b1, b2, b3, b4, b5⟩⟩ := h
  obtain ⟨⟨⟨c1, c2, c3, c4⟩, ⟨c5, c6, c7⟩, ⟨c8, c9, c10, c11⟩⟩, -, -, -, c12⟩ := f
  exact ⟨⟨a1, c1, c2, c5, a2, a3, a4, a5, a6, a7⟩, ⟨b1, b2, b3, b4, b5, c9⟩, c12⟩
theorem Tv.tk (h : Tv σ V) : Tk σ := by
  obtain ⟨⟨a1, a2, a3, a4, a5, a6, a7, a8, a9, a10⟩, ⟨b1, b2, b3, b4, b5, b6⟩, c⟩ := h
  exact ⟨⟨a1, a5, a6, a7, a8, a9, a10⟩, b1, b2, b3, b4, b5⟩
theorem Co.ts (h : Co σ E L V V) : Ts σ E L V := ⟨h.1, h.2.1.tv h.2.2.2.1, h.2.2.1.1, h.2.2.1.2.1, h.2.2.1.2.2.1, h.2.2.1.2.2.2.1, h.2.2.1.2.2.2.2⟩
theorem Fk.df {A : Nat → Prop} (h : Fk σ) (hw : Wn σ) (d : Df A σ σ1) (hA : ¬ A 19) : Fk σ1 := by
  obtain ⟨⟨a1, a2, a3, a4⟩, ⟨b1, b2, b3⟩, c⟩ := h
  have q := (d.2.2 19 (hw.lt a1) hA).2.1
  have k0 := d.2.1 19 (hw.lt a1)
  have k1 := d.2.1 20 (hw.lt a2)
  have k2 := d.2.1 21 (hw.lt a3)
  have k3 := d.2.1 22 (hw.lt a4)
  refine ⟨⟨k0.1.trans a1, k1.1.trans a2, k2.1.trans a3, k3.1.trans a4⟩, ⟨k1.2.trans b1, k2.2.trans b2, k3.2.trans b3⟩, ?_⟩
  rw [q, q, q, q]
  exact c
theorem Fz.df {A : Nat → Prop} (h : Fz σ V) (hw : Wn σ) (d : Df A σ σ1) (hA : ∀ x, 19 ≤ x → x ≤ 22 → ¬ A x) : Fz σ1 V := by
  obtain ⟨a1, ⟨a2, a3⟩, a4, a5, a6⟩ := h
  have q19 := d.2.2 19 (hw.lt a1.1.1) (hA 19 (by omega) (by omega))
  have q20 := d.2.2 20 (hw.lt a1.1.2.1) (hA 20 (by omega) (by omega))
  have q21 := d.2.2 21 (hw.lt a1.1.2.2.1) (hA 21 (by omega) (by omega))
  have q22 := d.2.2 22 (hw.lt a1.1.2.2.2) (hA 22 (by omega) (by omega))
  refine ⟨a1.df hw d (hA 19 (by omega) (by omega)), ⟨(q19.1 _).trans a2, (q19.1 _).trans a3⟩, ?_, ?_, ?_⟩
  · rw [q21.2.2.1]; exact a4
  · rw [q22.2.2.1]; exact a5
  · rw [q20.2.2.1]; exact a6
theorem Fz.sm (h : Fz σ V) (s : Sm V V') : Fz σ V' := by
  obtain ⟨a1, ⟨a2, a3⟩, a4, a5, a6⟩ := h
  refine ⟨a1, ⟨by rw [s.2.2.1]; exact a2, by rw [s.2.1]; exact a3⟩, fun t ht => by rw [s.1]; exact a4 t ht, fun k e he => a5 k e (by rw [← s.2.1]; exact he), fun a b ha hb => ?_⟩
  rw [s.fa]
  exact a6 a b ((s.hh a).mp ha) ((s.hh b).mp hb)
theorem Mo.df {A : Nat → Prop} {r q : Nat} (h : Mo σ r q) (hw : Wn σ) (d : Df A σ σ1) (hA : ¬ A 14) : Mo σ1 r q := by
  obtain ⟨⟨a1, a2, a3, a4, a5⟩, ⟨b1, b2, b3, b4⟩, ⟨c1, c2, c3, c4⟩, e⟩ := h
  have k0 := d.2.1 14 (hw.lt a1)
  have k1 := d.2.1 15 (hw.lt a2)
  have k2 := d.2.1 16 (hw.lt a3)
  have k3 := d.2.1 17 (hw.lt a4)
  have k4 := d.2.1 18 (hw.lt a5)
  have q := (d.2.2 14 (hw.lt a1) hA).2.1
  exact ⟨⟨k0.1.trans a1, k1.1.trans a2, k2.1.trans a3, k3.1.trans a4, k4.1.trans a5⟩, ⟨k1.2.trans b1, k2.2.trans b2, k3.2.trans b3, k4.2.trans b4⟩, ⟨(q _).trans c1, (q _).trans c2, (q _).trans c3, (q _).trans c4⟩, e⟩
theorem Tk.df {A : Nat → Prop} (h : Tk σ) (hw : Wn σ) (d : Df A σ σ1) (hA : ¬ A 23) : Tk σ1 := by
  obtain ⟨⟨a1, a2, a3, a4, a5, a6, a7⟩, ⟨b1, b2, b3, b4, b5⟩⟩ := h
  have k0 := d.2.1 23 (hw.lt a1)
  have k1 := d.2.1 24 (hw.lt a2)
  have k2 := d.2.1 25 (hw.lt a4)
  have k3 := d.2.1 26 (hw.lt a6)
  have q := (d.2.2 23 (hw.lt a1) hA).2.1
  exact ⟨⟨k0.1.trans a1, k1.1.trans a2, k1.2.trans a3, k2.1.trans a4, k2.2.trans a5, k3.1.trans a6, k3.2.trans a7⟩, (q _).trans b1, (q _).trans b2, (q _).trans b3, (q _).trans b4, (q _).trans b5⟩
theorem Lk.df {A : Nat → Prop} (h : Lk σ) (hw : Wn σ) (d : Df A σ σ1) (hA : ¬ A 2) : Lk σ1 := by
  obtain ⟨a, b⟩ := h
  have q := (d.2.2 2 (hw.lt a) hA).2.1
  refine ⟨((d.2.1 2 (hw.lt a)).1).trans a, ?_⟩
  rw [q, q, q, q, q, q, q, q, q, q]
  exact b
theorem Lk.f0 (h : Lk σ) : gfr σ 21 1100 2 = some 3 := by rw [gfr_ok h.1, h.2.1]
theorem Lk.f1 (h : Lk σ) : gfr σ 21 1101 2 = some 14 := by rw [gfr_ok h.1, h.2.2.1]
theorem Lk.f2 (h : Lk σ) : gfr σ 21 1102 2 = some 19 := by rw [gfr_ok h.1, h.2.2.2.1]
theorem Lk.f3 (h : Lk σ) : gfr σ 21 1103 2 = some 23 := by rw [gfr_ok h.1, h.2.2.2.2.1]
theorem Lk.f4 (h : Lk σ) : gfr σ 21 1104 2 = some 27 := by rw [gfr_ok h.1, h.2.2.2.2.2.1]
theorem Lk.f5 (h : Lk σ) : gfr σ 21 1105 2 = some 29 := by rw [gfr_ok h.1, h.2.2.2.2.2.2.1]
theorem Lk.f6 (h : Lk σ) : gfr σ 21 1106 2 = some 33 := by rw [gfr_ok h.1, h.2.2.2.2.2.2.2.1]
theorem Lk.f7 (h : Lk σ) : gfr σ 21 1107 2 = some 38 := by rw [gfr_ok h.1, h.2.2.2.2.2.2.2.2.1]
theorem Lk.f8 (h : Lk σ) : gfr σ 21 1108 2 = some 53 := by rw [gfr_ok h.1, h.2.2.2.2.2.2.2.2.2.1]
theorem Lk.f9 (h : Lk σ) : gfr σ 21 1109 2 = some 58 := by rw [gfr_ok h.1, h.2.2.2.2.2.2.2.2.2.2]
theorem Co.hd (h : Co σ E L V V0) (d : Dn Ah σ σ1) (st : St σ1 3 E L V') : Co σ1 E L V' V0 ∧ Kq σ E L σ1 E L := by
  obtain ⟨h1, h2, ⟨h3, h4, h5, h6, h7⟩, h8, ⟨r, q, h9⟩, h10⟩ := h
  have e1 : Pn σ1 E L = Pn σ E L := by unfold Pn; rw [d.1.2.1, d.1.2.2.2.2.1]
  have e2 : Pu σ1 E L = Pu σ E L := by unfold Pu; rw [d.1.2.1, d.1.2.2.2.2.2]
  have dd := d.df
  exact ⟨⟨st, h2.df h3 dd (fun q => by unfold Ah at q; omega), ⟨d.wn h3, h4, by rw [d.1.2.2.2.2.1]; exact h5, by rw [e1]; exact h6, by rw [e2]; exact h7⟩, h8.df h3 dd (fun x q1 q2 q => by unfold Ah at q; omega), ⟨r, q, h9.df h3 dd (fun q => by unfold Ah at q; omega)⟩, h10.df h3 dd (fun q => by unfold Ah at q; omega)⟩, dd.mono (fun x _ q => Or.inl (Or.inl (by unfold Ah at q; omega))), fun _ _ q => q, fun _ _ q => q, Nat.le_of_eq e1, Nat.le_of_eq e2⟩
theorem Co.follow (h : Co σ E L V V0) (hv0 : Vw V0) (hv : Vw V) : ∃ s, kX1_follow σ 19 3 = some s ∧ Co s E L V V ∧ Kq σ E L s E L := by
  obtain ⟨h1, h2, ⟨h3, h4, h5, h6, h7⟩, h8, h9, h10⟩ := h
  obtain ⟨s, g1, g2, g3, g4⟩ := c_follow h8 hv0 hv h1.1 h9
  have dd := g4.df
  have e1 : Pn s E L = Pn σ E L := by unfold Pn; rw [g4.1.2.1, g4.1.2.2.2.1]
  have e2 : Pu s E L = Pu σ E L := by unfold Pu; rw [g4.1.2.1, g4.1.2.2.2.2]
  have wn : Wn s := by unfold Wn; rw [g4.1.1, g4.1.2.2.2.1]; exact h3
  exact ⟨s, g1, ⟨h1.df h3 dd (fun x q z => by have := h4 x q; omega), h2.df h3 dd (fun z => by omega), ⟨wn, h4, by rw [g4.1.2.2.2.1]; exact h5, by rw [e1]; exact h6, by rw [e2]; exact h7⟩, g2, g3, h10.df h3 dd (fun z => by omega)⟩, dd.mono (fun x _ q => Or.inr (by omega)), fun _ _ q => q, fun _ _ q => q, Nat.le_of_eq e1, Nat.le_of_eq e2⟩
theorem Co.tree (h : Co σ E L V V) (ts : Ts σ1 E1 L1 V') (tq : Tq σ E L σ1 E1 L1) (sm : Sm V V') : Co σ1 E1 L1 V' V' ∧ Kq σ E L σ1 E1 L1 := by
  obtain ⟨h1, h2, ⟨h3, h4, h5, h6, h7⟩, h8, ⟨r, q, h9⟩, h10⟩ := h
  have no : ∀ x, x < 3 ∨ (14 ≤ x ∧ x ≤ 22) → ¬ (Fp 3 E L x ∨ At x) := fun x hx q => by
    rcases q with q | q
    · have := h4 x q; omega
    · unfold At at q; omega
  exact ⟨⟨ts.1, ts.2.1.tk, ⟨ts.2.2.1, ts.2.2.2.1, ts.2.2.2.2.1, ts.2.2.2.2.2.1, ts.2.2.2.2.2.2⟩, (h8.df h3 tq.1 (fun x q1 q2 => no x (by omega))).sm sm, ⟨r, q, h9.df h3 tq.1 (no 14 (by omega))⟩, h10.df h3 tq.1 (no 2 (by omega))⟩, Kq.tq tq⟩
end COR
/-- both sides hold one state -/
def JC (σ : Hp) (S : MS) (E : Nat) (L : List Nat) (V : Vt) (π : Nat → Nat) (g : Gh) : Prop := Co σ E L V V ∧ RT (S.1 0) V π ∧ Vw V ∧ Wf V g V.U ∧ ∀ t, (g.lo t).isSome = decide (hs V t)
def Jq (S S' : MS) : Prop := Rn Rd Rb S S' ∧ ∀ x, x < 2 ∨ 23614 ≤ x → S'.1 0 x = S.1 0 x
theorem Jq.rfl {S : MS} : Jq S S := ⟨Rn.rfl, fun _ _ => Eq.refl _⟩
theorem Jq.tr {S T U : MS} (h : Jq S T) (k : Jq T U) : Jq S U := ⟨h.1.tr k.1, fun x hx => (k.2 x hx).trans (h.2 x hx)⟩
/-- both go on to a state with these words, told ones, measure and cap -/
def Jr (σ : Hp) (S : MS) (E : Nat) (L : List Nat) (V1 : Vt) (σ' : Hp) (S' : MS) : Prop := ∃ E' L' V' π' g', JC σ' S' E' L' V' π' g' ∧ Kq σ E L σ' E' L' ∧ Jq S S' ∧ Sm V1 V'
section JRs
variable {σ σ1 : Hp} {S S1 : MS} {E : Nat} {L : List Nat} {V V1 : Vt} {π : Nat → Nat} {g : Gh}
theorem Jr.of_po {σ0 : Hp} {S0 : MS} {E0 : Nat} {L0 : List Nat} (co : Co σ E L V V) (hv : Vw V) (po : Po σ S E L V σ1 S1 (fun t => decide (hs V t))) (kq : Kq σ0 E0 L0 σ E L) (jq : Jq S0 S) (sm : Sm V1 V) : Jr σ0 S0 E0 L0 V1 σ1 S1 := by
  obtain ⟨E', L', V', π', g', z1, z2, z3, z4, z5, z6, z7, z8⟩ := po
  obtain ⟨c1, c2⟩ := co.tree z1 z4 z7
  refine ⟨E', L', V', π', g', ⟨c1, z2, z7.vw hv, z3, fun t => ?_⟩, kq.tr c2, jq.tr ⟨z5, fun x hx => z6 x (by omega)⟩, sm.tr z7⟩
  rw [z8 t]
  show decide (hs V t) = decide (hs V' t)
  by_cases y : hs V t
  · rw [decide_eq_true y, decide_eq_true ((z7.hh t).mpr y)]
  · rw [decide_eq_false y, decide_eq_false (fun v => y ((z7.hh t).mp v))]
/-- the tree is built anew on both sides, over a state that may have been changed -/
theorem jc_build {σ0 : Hp} {S0 : MS} {E0 : Nat} {L0 : List Nat} (co : Co σ E L V V) (hv : Vw V) (rw0 : RW (S.1 0) 2 V) (kq : Kq σ0 E0 L0 σ E L) (jq : Jq S0 S) : ∃ σ1 S1, kX9_buildAnew σ 23 = some σ1 ∧ r_buildNow S = some S1 ∧ Jr σ0 S0 E0 L0 V σ1 S1 := by
  obtain ⟨σ1, S1, y1, y2, y3⟩ := j_build co.ts rw0 hv
  exact ⟨σ1, S1, y1, y2, Jr.of_po co hv y3 kq jq Sm.rfl⟩
/-- a thing comes in on both sides -/
theorem jc_in {σ0 : Hp} {S0 : MS} {E0 : Nat} {L0 : List Nat} {t w : Nat} (h : JC σ S E L V π g) (ht : t < 40) (h0 : V.W t = 0) (hw : isW w) (kq : Kq σ0 E0 L0 σ E L) (jq : Jq S0 S) : ∃ σ1 S1, kX11_bringIn σ 2 (nI t) (nI w) = some (nI t, σ1) ∧ r_putNow (r0 S (upd (S.1 0) (6 + t) (nI w))) (nI t) = some S1 ∧ Jr σ0 S0 E0 L0 (V.sW (up1 V.W t w)) σ1 S1 := by
  obtain ⟨co, rt, hv, wf, hg⟩ := h
  have w0 : w ≠ 0 := by have := isW_lt hw; omega
  obtain ⟨s1, g1, g2, g3⟩ := c_setWord co.1 ht h0 w0
  obtain ⟨co1, kq1⟩ := co.hd g3 g2
  have hv1 : Vw (V.sW (up1 V.W t w)) := by
    obtain ⟨a1, a2, a3, a4, a5, a6⟩ := hv
    refine ⟨fun x hx => ?_, a2, a3, a4, fun e he => ?_, a6⟩
    · show up1 V.W t w x = 0 ∨ isW (up1 V.W t w x)
      by_cases z : x = t
      · rw [z, up1_s]; exact Or.inr hw
      · rw [up1_n z]; exact a1 x hx
    · obtain ⟨b1, b2, b3⟩ := a5 e he
      have up : ∀ x, hs V x → hs (V.sW (up1 V.W t w)) x := fun x hx => ⟨hx.1, by
        show up1 V.W t w x ≠ 0
        rw [up1_n (show x ≠ t from fun z => hx.2 (z ▸ h0))]; exact hx.2⟩
      exact ⟨up _ b1, up _ b2, b3⟩
  obtain ⟨s2, k1, k2, k3⟩ := co1.follow hv hv1
  -- the reference's row
  have nt0 : ∀ p, p < V.U → ∀ e ∈ (V.P p).es, e.1 ≠ t := fun p hp e he z => (wf.es hp e he).1.2 (z ▸ h0)
  have fe : ∀ a b, a ≠ t → b ≠ t → far (V.sW (up1 V.W t w)) a b = far V a b := fun a b ha hb => by
    unfold far
    show (match tl V.T a b with | some f => f | none => apart V.M (up1 V.W t w a) (up1 V.W t w b)) = _
    rw [up1_n ha, up1_n hb]
    rfl
  have rt1 : RT (upd (S.1 0) (6 + t) (nI w)) (V.sW (up1 V.W t w)) π := by
    obtain ⟨⟨⟨b1, b2, b3⟩, b4, b5⟩, c1, c2, c3, c4, c5⟩ := rt
    have l16 := hv.2.2.2.1
    refine ⟨⟨⟨by rw [upd_n (by omega)]; exact b1, by rw [upd_n (by omega)]; exact b2, by rw [upd_n (by omega)]; exact b3⟩, fun x hx => ?_, fun k e he => ?_⟩, by rw [upd_n (by omega)]; exact c1, fun p hp => ⟨(c2 p hp).1, ?_⟩, fun p hp hp2 => by rw [upd_n (by omega)]; exact c3 p hp hp2, c4, c5⟩
    · show upd (S.1 0) (6 + t) (nI w) (6 + x) = nI (up1 V.W t w x)
      by_cases z : x = t
      · rw [z, upd_s, up1_s]
      · rw [upd_n (by omega), up1_n z]; exact b4 x hx
    · rw [upd_n (by omega), upd_n (by omega), upd_n (by omega)]; exact b5 k e he
    · have er : ((V.sW (up1 V.W t w)).P p).es.map (reE (V.sW (up1 V.W t w)) π (V.P p)) = (V.P p).es.map (reE V π (V.P p)) := List.map_congr_left (fun e he => by
        unfold reE
        rw [wy_cw, wy_cw]
        congr 3
        cases q : (V.P p).ce with
        | none => rfl
        | some c => exact fe c e.1 (fun z => (wf.ce hp q).2 (z ▸ h0)) (nt0 p hp e he))
      show RP _ _ (V.P p).lf (((V.sW (up1 V.W t w)).P p).es.map (reE (V.sW (up1 V.W t w)) π (V.P p)))
      rw [er]
      exact (c2 p hp).2.keep (fun x q1 q2 => upd_n (by omega))
  have wf1 : Wf (V.sW (up1 V.W t w)) g V.U := by
    refine ⟨wf.1, fun p hp => ?_, wf.2.2⟩
    obtain ⟨a1, a2, a3⟩ := wf.2.1 p hp
    refine ⟨a1, fun e he => ?_, a3⟩
    obtain ⟨b1, b2⟩ := a2 e he
    exact ⟨⟨b1.1, by show up1 V.W t w e.1 ≠ 0; rw [up1_n (show e.1 ≠ t from fun z => b1.2 (z ▸ h0))]; exact b1.2⟩, b2⟩
  have hst : hs (V.sW (up1 V.W t w)) t := ⟨ht, by show up1 V.W t w t ≠ 0; rw [up1_s]; exact w0⟩
  have hn : g.lo t = none := by
    have := hg t
    rw [decide_eq_false (fun z => z.2 h0)] at this
    cases q : g.lo t with
    | none => rfl
    | some x => rw [q] at this; cases this
  obtain ⟨σ1, S1, y1, y2, y3⟩ := j_insert (S := r0 S (upd (S.1 0) (6 + t) (nI w))) k2.ts (by rw [r0_0]; exact rt1) hv1 wf1 hst hn
  have lk1 := co1.2.2.2.2.2
  have lk2 := k2.2.2.2.2.2
  refine ⟨σ1, S1, ?_, y2, ?_⟩
  · unfold kX11_bringIn
    rw [co.2.2.2.2.2.f0, bind_s, co.1.cs, g1, bind_s, lk1.f2, bind_s, lk1.f0, bind_s, ckd_ok co1.2.2.2.1.1.1.1, k1, bind_s, lk2.f3, bind_s, ckd_ok k2.2.1.1.1, y1, bind_s]
  · refine Jr.of_po k2 hv1 (y3.cg (fun x => ?_)) ((kq.tr kq1).tr k3) (jq.tr ⟨Rn.r0 (Or.inl rfl), fun x hx => by rw [r0_0, upd_n (by omega)]⟩) Sm.rfl
    by_cases z : x = t
    · rw [if_pos z, z, decide_eq_true hst]
    · rw [if_neg z, hg x]
      have : hs (V.sW (up1 V.W t w)) x ↔ hs V x := by
        show (x < 40 ∧ up1 V.W t w x ≠ 0) ↔ _
        rw [up1_n z]
      by_cases y : hs V x
      · rw [decide_eq_true y, decide_eq_true (this.mpr y)]
      · rw [decide_eq_false y, decide_eq_false (fun v => y (this.mp v))]
end JRs
