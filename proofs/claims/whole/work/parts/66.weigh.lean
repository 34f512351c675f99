-- fields and rows are written, nothing made
def Dn (A : Nat → Prop) (σ σ' : Hp) : Prop := (σ'.kd = σ.kd ∧ σ'.ln = σ.ln ∧ σ'.fr = σ.fr ∧ σ'.rr = σ.rr ∧ σ'.nx = σ.nx ∧ σ'.us = σ.us) ∧ ∀ x, ¬ A x → (∀ i, σ'.fi i x = σ.fi i x) ∧ σ'.ar x = σ.ar x
section DN
variable {A B : Nat → Prop} {σ σ1 σ2 : Hp} {V : Vt}
theorem Dn.rfl : Dn A σ σ := ⟨⟨Eq.refl _, Eq.refl _, Eq.refl _, Eq.refl _, Eq.refl _, Eq.refl _⟩, fun _ _ => ⟨fun _ => Eq.refl _, Eq.refl _⟩⟩
theorem Dn.trans (h : Dn A σ σ1) (g : Dn B σ1 σ2) (hb : ∀ x, B x → A x) : Dn A σ σ2 := by
  obtain ⟨⟨a1, a2, a3, a4, a5, a6⟩, a7⟩ := h
  obtain ⟨⟨b1, b2, b3, b4, b5, b6⟩, b7⟩ := g
  refine ⟨⟨b1.trans a1, b2.trans a2, b3.trans a3, b4.trans a4, b5.trans a5, b6.trans a6⟩, fun x hx => ?_⟩
  have q := a7 x hx
  have r := b7 x (fun z => hx (hb x z))
  exact ⟨fun i => (r.1 i).trans (q.1 i), r.2.trans q.2⟩
theorem Dn.tr (h : Dn A σ σ1) (g : Dn A σ1 σ2) : Dn A σ σ2 := h.trans g (fun _ q => q)
theorem Dn.mono (h : Dn A σ σ1) (hb : ∀ x, A x → B x) : Dn B σ σ1 := ⟨h.1, fun x hx => h.2 x (fun q => hx (hb x q))⟩
theorem Dn.xi {i a : Nat} {v : Int32} (h : A a) : Dn A σ (sfi σ i a v) := ⟨⟨kd_sfi, ln_sfi, fr_sfi, rr_sfi, nx_sfi, us_sfi⟩, fun x hx => ⟨fun j => (by rw [fi_sfi, if_neg (fun q : j = i ∧ x = a => hx (q.2 ▸ h))]), by rw [ar_sfi]⟩⟩
theorem Dn.xa {a : Nat} {f : Nat → Int32} (h : A a) : Dn A σ (saw σ a f) := ⟨⟨kd_saw, ln_saw, fr_saw, rr_saw, nx_saw, us_saw⟩, fun x hx => ⟨fun j => (by rw [fi_saw]), ar_saw_ne (fun q => hx (q ▸ h))⟩⟩
theorem Dn.xi' {i a : Nat} {v : Int32} (d : Dn A σ σ1) (h : A a) : Dn A σ (sfi σ1 i a v) := d.tr (Dn.xi h)
theorem Dn.xa' {a : Nat} {f : Nat → Int32} (d : Dn A σ σ1) (h : A a) : Dn A σ (saw σ1 a f) := d.tr (Dn.xa h)
theorem Dn.df (h : Dn A σ σ1) : Df A σ σ1 := by
  obtain ⟨⟨a1, a2, a3, a4, a5, a6⟩, a7⟩ := h
  exact ⟨by rw [a5]; exact Nat.le_refl _, fun a _ => by rw [a1, a2]; exact ⟨Eq.refl _, Eq.refl _⟩, fun a _ hA => ⟨(a7 a hA).1, fun i => by rw [a3], (a7 a hA).2, by rw [a4]⟩⟩
theorem Dn.wn (h : Dn A σ σ1) (hw : Wn σ) : Wn σ1 := by
  obtain ⟨⟨a1, a2, a3, a4, a5, a6⟩, a7⟩ := h
  unfold Wn
  rw [a1, a5]
  exact hw
theorem Dn.k (h : Dn A σ σ1) : σ1.kd = σ.kd := h.1.1
theorem Dn.f (h : Dn A σ σ1) : σ1.fr = σ.fr := h.1.2.2.1
theorem PG.dn {a : Nat} (h : PG σ a) (d : Dn A σ σ1) : PG σ1 a := h.cg d.1.1 d.1.2.1 d.1.2.2.1
theorem PC.dn {a : Nat} {p : Pg} (h : PC σ a p) (d : Dn A σ σ1) (hA : ∀ x, a ≤ x → x ≤ a + 3 → ¬ A x) : PC σ1 a p := by
  refine ⟨h.1.dn d, ?_, fun k e he => ?_⟩
  · have q := (d.2 a (hA a (by omega) (by omega))).1
    rw [q, q, q]
    exact h.2.1
  · rw [(d.2 (a + 1) (hA _ (by omega) (by omega))).2, (d.2 (a + 2) (hA _ (by omega) (by omega))).2, (d.2 (a + 3) (hA _ (by omega) (by omega))).2]
    exact h.2.2 k e he
theorem Tv.dn (h : Tv σ V) (d : Dn A σ σ1) (hA : ¬ A 20) : Tv σ1 V := by
  unfold Tv at *
  rw [d.1.1, d.1.2.1, d.1.2.2.1, (d.2 20 hA).2]
  exact h
theorem Lv.dn {l E : Nat} {L : List Nat} (h : Lv σ l E L) (d : Dn A σ σ1) (hA : ¬ A l) : Lv σ1 l E L := by
  unfold Lv at *
  rw [d.1.1, d.1.2.1, d.1.2.2.1, d.1.2.2.2.1, (d.2 l hA).1]
  exact h
theorem St.dn {s E : Nat} {L : List Nat} (h : St σ s E L V) (d : Dn A σ σ1) (hA : ∀ x, Fp s E L x → ¬ A x) : St σ1 s E L V := by
  obtain ⟨⟨a1, a2, a3, a4, a5, a6⟩, ⟨h2, h3⟩, h4, h5, h6, h7, h8⟩ := id h
  have q0 := fun x q1 q2 => d.2 x (hA x (Or.inl ⟨q1, q2⟩))
  refine ⟨⟨by rw [d.1.1]; exact a1, by rw [d.1.2.1]; exact a2, by rw [d.1.2.2.1]; exact a3, ?_, ?_, ?_⟩, ⟨?_, ?_⟩, h4.dn d (hA _ (Or.inl ⟨by omega, by omega⟩)), h5, fun a ha => (h6 a ha).dn d, h7, fun p a hp ha => (h8 p a hp ha).dn d (fun x q1 q2 => hA x (Or.inr (Or.inr ⟨a, List.mem_of_getElem? ha, q1, q2⟩)))⟩
  · have := (q0 s (by omega) (by omega)).1
    rw [this, this, this, this]; exact a4
  · rw [(q0 (s + 1) (by omega) (by omega)).2]; exact a5
  · rw [(q0 (s + 2) (by omega) (by omega)).2, (q0 (s + 3) (by omega) (by omega)).2, (q0 (s + 4) (by omega) (by omega)).2]; exact a6
  · rw [(q0 s (by omega) (by omega)).1]; exact h2
  · rw [(q0 s (by omega) (by omega)).1]; exact h3
end DN
theorem nar_bI {p : Prop} [Decidable p] : vp_nar .boolean (bI p) = bI p := by
  unfold bI
  split <;> rfl
abbrev Ent : Type := Nat × Nat × Nat
def tg (es : List Ent) (k : Nat) : Nat := (es[k]?.getD (0, 0, 0)).1
def rg (es : List Ent) (k : Nat) : Nat := (es[k]?.getD (0, 0, 0)).2.1
theorem tg_eq {es : List Ent} {k : Nat} {e : Ent} (h : es[k]? = some e) : tg es k = e.1 := by unfold tg; rw [h]; rfl
theorem rg_eq {es : List Ent} {k : Nat} {e : Ent} (h : es[k]? = some e) : rg es k = e.2.1 := by unfold rg; rw [h]; rfl
/-- whether an entry goes to the second centre -/
def secP (V : Vt) (es : List Ent) (i j k : Nat) : Prop := k = j ∨ (k ≠ i ∧ far V (tg es j) (tg es k) < far V (tg es i) (tg es k))
theorem secP_dec (V : Vt) (es : List Ent) (i j k : Nat) : secP V es i j k ∨ ¬ secP V es i j k := Classical.em _
def secB (V : Vt) (es : List Ent) (i j k : Nat) : Bool := decide (k = j) || (!decide (k = i) && decide (far V (tg es j) (tg es k) < far V (tg es i) (tg es k)))
def gr1 (V : Vt) (es : List Ent) (i j : Nat) : Nat → Nat
  | 0 => 0
  | n + 1 => if secB V es i j n = true then gr1 V es i j n else max (gr1 V es i j n) (rg es n + far V (tg es i) (tg es n))
def gr2 (V : Vt) (es : List Ent) (i j : Nat) : Nat → Nat
  | 0 => 0
  | n + 1 => if secB V es i j n = true then max (gr2 V es i j n) (rg es n + far V (tg es j) (tg es n)) else gr2 V es i j n
theorem gr1_le {V : Vt} (hv : Vw V) {es : List Ent} {i j m : Nat} (h : ∀ k, rg es k ≤ m) : ∀ n, gr1 V es i j n ≤ m + 99
  | 0 => by unfold gr1; omega
  | n + 1 => by
    unfold gr1
    have := gr1_le hv (i := i) (j := j) h n
    have := h n
    have := far_le hv (tg es i) (tg es n)
    split <;> omega
theorem gr2_le {V : Vt} (hv : Vw V) {es : List Ent} {i j m : Nat} (h : ∀ k, rg es k ≤ m) : ∀ n, gr2 V es i j n ≤ m + 99
  | 0 => by unfold gr2; omega
  | n + 1 => by
    unfold gr2
    have := gr2_le hv (i := i) (j := j) h n
    have := h n
    have := far_le hv (tg es j) (tg es n)
    split <;> omega
theorem rg_le {es : List Ent} {m : Nat} (h : ∀ e ∈ es, e.2.1 ≤ m) (k : Nat) : rg es k ≤ m := by
  unfold rg
  cases q : es[k]? with
  | none => exact Nat.zero_le _
  | some e => exact h e (List.mem_of_getElem? q)
section WG
variable {σ : Hp} {V : Vt} {a : Nat} {p : Pg}
/-- the tree's own cells -/
def At (x : Nat) : Prop := 23 ≤ x ∧ x ≤ 26
set_option maxHeartbeats 1000000 in
theorem c_weigh (tv : Tv σ V) (hv : Vw V) (pc : PC σ a p) (ha : a + 3 < 23 ∨ 26 < a) (hes : ∀ e ∈ p.es, hs V e.1 ∧ e.2.1 ≤ 9000) {i j : Nat} (hi : i < p.es.length) (hj : j < p.es.length) : ∃ σ', kX9_weigh σ 23 a (nI i) (nI j) = some (nI (max (gr1 V p.es i j p.es.length) (gr2 V p.es i j p.es.length)), σ') ∧ Dn At σ σ' ∧ σ'.fi 905 23 = nI (gr1 V p.es i j p.es.length) ∧ σ'.fi 906 23 = nI (gr2 V p.es i j p.es.length) ∧ (∀ k, k < p.es.length → σ'.ar 26 k = bI (secB V p.es i j k = true)) ∧ (∀ x, x ≠ 905 → x ≠ 906 → σ'.fi x 23 = σ.fi x 23) ∧ σ'.ar 24 = σ.ar 24 ∧ σ'.ar 25 = σ.ar 25 := by
  have h7 := pc.le
  have e0 : (0 : Int32) = nI 0 := rfl
  have a23 : At 23 := ⟨by omega, by omega⟩
  have a26 : At 26 := ⟨by omega, by omega⟩
  have base : ∀ σ1, Dn At σ σ1 → Tv σ1 V ∧ PC σ1 a p := fun σ1 d => ⟨tv.dn d (fun q => by unfold At at q; omega), pc.dn d (fun x q1 q2 q => by unfold At at q; omega)⟩
  have gb1 := gr1_le hv (i := i) (j := j) (rg_le (fun e he => (hes e he).2))
  have gb2 := gr2_le hv (i := i) (j := j) (rg_le (fun e he => (hes e he).2))
  obtain ⟨ei, hei⟩ : ∃ e, p.es[i]? = some e := ⟨_, List.getElem?_eq_getElem hi⟩
  obtain ⟨ej, hej⟩ : ∃ e, p.es[j]? = some e := ⟨_, List.getElem?_eq_getElem hj⟩
  have hsi := (hes ei (List.mem_of_getElem? hei)).1
  have hsj := (hes ej (List.mem_of_getElem? hej)).1
  unfold kX9_weigh
  rw [pfi_ok tv.1.1, bind_s, pfi_ok (show (sfi σ 905 23 0).kd 23 = 19 from tv.1.1), bind_s, e0]
  refine lp p.es.length (fun F k (s : Hp) => kX9_weigh_13 F 23 a (nI i) (nI j) (nI k) s) (fun k s => Dn At σ s ∧ s.fi 905 23 = nI (gr1 V p.es i j k) ∧ s.fi 906 23 = nI (gr2 V p.es i j k) ∧ (∀ k', k' < k → s.ar 26 k' = bI (secB V p.es i j k' = true)) ∧ (∀ x, x ≠ 905 → x ≠ 906 → s.fi x 23 = σ.fi x 23) ∧ s.ar 24 = σ.ar 24 ∧ s.ar 25 = σ.ar 25) (fun r => ∃ σ', r = some (nI (max (gr1 V p.es i j p.es.length) (gr2 V p.es i j p.es.length)), σ') ∧ Dn At σ σ' ∧ σ'.fi 905 23 = nI (gr1 V p.es i j p.es.length) ∧ σ'.fi 906 23 = nI (gr2 V p.es i j p.es.length) ∧ (∀ k, k < p.es.length → σ'.ar 26 k = bI (secB V p.es i j k = true)) ∧ (∀ x, x ≠ 905 → x ≠ 906 → σ'.fi x 23 = σ.fi x 23) ∧ σ'.ar 24 = σ.ar 24 ∧ σ'.ar 25 = σ.ar 25) (fun F s J => ?_) (fun F k s hk J => Or.inl ?_) p.es.length 0 FU _ FU_gt (by omega) ⟨(Dn.xi a23).xi' a23, ?_, ?_, fun k' hk' => absurd hk' (Nat.not_lt_zero _), fun x h1 h2 => ?_, rfl, rfl⟩
  · obtain ⟨j1, j2, j3, j4, j5⟩ := J
    obtain ⟨tv1, pc1⟩ := base s j1
    refine ⟨s, ?_, j1, j2, j3, j4, j5⟩
    have b1 := gb1 p.es.length
    have b2 := gb2 p.es.length
    show kX9_weigh_13 (F + 1) 23 a (nI i) (nI j) (nI p.es.length) s = _
    rw [kX9_weigh_13.eq_2, pc1.n, bind_s, if_pos (nI_le (Nat.le_refl _) (by omega)), gfi_ok tv1.1.1, gfi_ok tv1.1.1, bind_s, bind_s, j2, j3, bind_s, bind_s]
    by_cases z : gr1 V p.es i j p.es.length ≤ gr2 V p.es i j p.es.length
    · rw [if_pos (nI_le z (by omega)), Nat.max_eq_right z]
    · rw [if_neg (nI_ge (by omega) (by omega)), Nat.max_eq_left (by omega)]
  · obtain ⟨j1, j2, j3, j4, j5, j6, j7⟩ := J
    obtain ⟨tv1, pc1⟩ := base s j1
    obtain ⟨ek, hek⟩ : ∃ e, p.es[k]? = some e := ⟨_, List.getElem?_eq_getElem hk⟩
    have hsk := hes ek (List.mem_of_getElem? hek)
    have fl1 := far_le hv ei.1 ek.1
    have fl2 := far_le hv ej.1 ek.1
    have b1 := gb1 k
    have b2 := gb2 k
    show ∃ s', _ ∧ kX9_weigh_13 (F + 1) 23 a (nI i) (nI j) (nI k) s = kX9_weigh_13 F 23 a (nI i) (nI j) (nI (k + 1)) s'
    rw [kX9_weigh_13.eq_2, pc1.n, bind_s, if_neg (nI_ge hk (by omega))]
    simp only [tv1.fa, pc1.1.f1, pc1.t hei, pc1.t hej, pc1.t hek, tv1.kf, tv1.of hsi hsk.1, tv1.of hsj hsk.1, tv1.ts, bind_s]
    have st : (if nI k = nI j then kX9_weigh_91 (kX9_weigh_13 F) 23 a (nI i) (nI j) (nI k) (nI (far V ei.1 ek.1)) (nI (far V ej.1 ek.1)) 26 (nI k) s else if nI k = nI i then kX9_weigh_95 (kX9_weigh_13 F) 23 a (nI i) (nI j) (nI k) (nI (far V ei.1 ek.1)) (nI (far V ej.1 ek.1)) 26 (nI k) s else if nI (far V ei.1 ek.1) ≤ nI (far V ej.1 ek.1) then kX9_weigh_95 (kX9_weigh_13 F) 23 a (nI i) (nI j) (nI k) (nI (far V ei.1 ek.1)) (nI (far V ej.1 ek.1)) 26 (nI k) s else kX9_weigh_91 (kX9_weigh_13 F) 23 a (nI i) (nI j) (nI k) (nI (far V ei.1 ek.1)) (nI (far V ej.1 ek.1)) 26 (nI k) s) = kX9_weigh_96 (kX9_weigh_13 F) 23 a (nI i) (nI j) (nI k) (nI (far V ei.1 ek.1)) (nI (far V ej.1 ek.1)) 26 (nI k) (bI (secB V p.es i j k = true)) s := by
      unfold kX9_weigh_91 kX9_weigh_95
      unfold secB
      rw [tg_eq hei, tg_eq hej, tg_eq hek]
      by_cases z1 : k = j
      · rw [if_pos (by rw [z1])]
        simp [z1, bI]
      · rw [if_neg (fun y => z1 ((nI_eq (by omega) (by omega)).mp y))]
        by_cases z2 : k = i
        · rw [if_pos (by rw [z2])]
          have z3 : ¬ i = j := fun y => z1 (z2.trans y)
          simp [z2, z3, bI]
        · rw [if_neg (fun y => z2 ((nI_eq (by omega) (by omega)).mp y))]
          by_cases z3 : far V ej.1 ek.1 < far V ei.1 ek.1
          · rw [if_neg (nI_ge z3 (by omega))]
            simp [z1, z2, z3, bI]
          · rw [if_pos (nI_le (by omega) (by omega))]
            simp [z1, z2, z3, bI]
    rw [st]
    unfold kX9_weigh_96
    rw [nar_bI, ast_saw tv1.1.2.2.2.2.2.2.2.2.1 (by rw [tv1.1.2.2.2.2.2.2.2.2.2]; omega) (by omega), bind_s]
    generalize hs2 : saw s 26 (upd (s.ar 26) k (bI (secB V p.es i j k = true))) = s2
    have d2 : Dn At σ s2 := by rw [← hs2]; exact j1.xa' a26
    obtain ⟨tv2, pc2⟩ := base s2 d2
    have r2 : s2.ar 26 k = bI (secB V p.es i j k = true) := by rw [← hs2, ar_saw]; exact upd_s
    have f2 : s2.fi = s.fi := by rw [← hs2]; exact fi_saw
    have rr : ∀ k', k' < k + 1 → s2.ar 26 k' = bI (secB V p.es i j k' = true) := fun k' hk' => by
      by_cases z : k' = k
      · rw [z]; exact r2
      · rw [← hs2, ar_saw, upd_n z]
        exact j4 k' (by omega)
    have r24 : s2.ar 24 = σ.ar 24 := by rw [← hs2, ar_saw_ne (by omega)]; exact j6
    have r25 : s2.ar 25 = σ.ar 25 := by rw [← hs2, ar_saw_ne (by omega)]; exact j7
    have al : ald s2 2 26 (nI k) = some (bI (secB V p.es i j k = true)) := by rw [ald_ok tv2.1.2.2.2.2.2.2.2.2.1 (by rw [tv2.1.2.2.2.2.2.2.2.2.2]; omega) (by omega), r2]
    simp only [pc2.1.f2, pc2.r hek, tv2.ts, al, bind_s, ite_bI]
    unfold kX9_weigh_121
    simp only [tv2.ts, al, bind_s, ite_bI, gfi_ok tv2.1.1, f2, j2, j3]
    unfold kX9_weigh_153 kX9_weigh_178 kX9_weigh_181
    have gg1 : gr1 V p.es i j (k + 1) = if secB V p.es i j k = true then gr1 V p.es i j k else max (gr1 V p.es i j k) (ek.2.1 + far V ei.1 ek.1) := by
      rw [gr1.eq_2, rg_eq hek, tg_eq hei, tg_eq hek]
    have gg2 : gr2 V p.es i j (k + 1) = if secB V p.es i j k = true then max (gr2 V p.es i j k) (ek.2.1 + far V ej.1 ek.1) else gr2 V p.es i j k := by
      rw [gr2.eq_2, rg_eq hek, tg_eq hej, tg_eq hek]
    by_cases z : secB V p.es i j k = true
    · rw [if_pos z] at gg1 gg2
      simp only [if_pos z, nI_add, pfi_ok tv2.1.1, bind_s, nI_1]
      have out : ∀ v : Nat, v = max (gr2 V p.es i j k) (ek.2.1 + far V ej.1 ek.1) → ∃ s', (Dn At σ s' ∧ s'.fi 905 23 = nI (gr1 V p.es i j (k + 1)) ∧ s'.fi 906 23 = nI (gr2 V p.es i j (k + 1)) ∧ (∀ k', k' < k + 1 → s'.ar 26 k' = bI (secB V p.es i j k' = true)) ∧ (∀ x, x ≠ 905 → x ≠ 906 → s'.fi x 23 = σ.fi x 23) ∧ s'.ar 24 = σ.ar 24 ∧ s'.ar 25 = σ.ar 25) ∧ kX9_weigh_13 F 23 a (nI i) (nI j) (nI (k + 1)) (sfi s2 906 23 (nI v)) = kX9_weigh_13 F 23 a (nI i) (nI j) (nI (k + 1)) s' := fun v hv => ⟨_, ⟨d2.xi' a23, by rw [fi_sfi, if_neg (by omega), f2, j2, gg1], by rw [fi_sfi, if_pos ⟨rfl, rfl⟩, gg2, hv], rr, fun x h1 h2 => by rw [fi_sfi, if_neg (fun y => h2 y.1), f2]; exact j5 x h1 h2, r24, r25⟩, rfl⟩
      by_cases y : ek.2.1 + far V ej.1 ek.1 ≤ gr2 V p.es i j k
      · rw [if_pos (nI_le y (by omega))]
        exact out _ (by omega)
      · rw [if_neg (nI_ge (by omega) (by omega))]
        exact out _ (by omega)
    · rw [if_neg z] at gg1 gg2
      simp only [if_neg z, nI_add, pfi_ok tv2.1.1, bind_s, nI_1]
      have out : ∀ v : Nat, v = max (gr1 V p.es i j k) (ek.2.1 + far V ei.1 ek.1) → ∃ s', (Dn At σ s' ∧ s'.fi 905 23 = nI (gr1 V p.es i j (k + 1)) ∧ s'.fi 906 23 = nI (gr2 V p.es i j (k + 1)) ∧ (∀ k', k' < k + 1 → s'.ar 26 k' = bI (secB V p.es i j k' = true)) ∧ (∀ x, x ≠ 905 → x ≠ 906 → s'.fi x 23 = σ.fi x 23) ∧ s'.ar 24 = σ.ar 24 ∧ s'.ar 25 = σ.ar 25) ∧ kX9_weigh_13 F 23 a (nI i) (nI j) (nI (k + 1)) (sfi s2 905 23 (nI v)) = kX9_weigh_13 F 23 a (nI i) (nI j) (nI (k + 1)) s' := fun v hv => ⟨_, ⟨d2.xi' a23, by rw [fi_sfi, if_pos ⟨rfl, rfl⟩, gg1, hv], by rw [fi_sfi, if_neg (by omega), f2, j3, gg2], rr, fun x h1 h2 => by rw [fi_sfi, if_neg (fun y => h1 y.1), f2]; exact j5 x h1 h2, r24, r25⟩, rfl⟩
      by_cases y : ek.2.1 + far V ei.1 ek.1 ≤ gr1 V p.es i j k
      · rw [if_pos (nI_le y (by omega))]
        exact out _ (by omega)
      · rw [if_neg (nI_ge (by omega) (by omega))]
        exact out _ (by omega)
  · rw [fi_sfi, if_neg (by omega), fi_sfi, if_pos ⟨rfl, rfl⟩]
    rfl
  · rw [fi_sfi, if_pos ⟨rfl, rfl⟩]
    rfl
  · rw [fi_sfi, if_neg (fun y => h2 y.1), fi_sfi, if_neg (fun y => h1 y.1)]
end WG
