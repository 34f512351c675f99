section ACT
variable {σ σ' σ1 σ2 : Hp} {S S' S1 : MS} {own : Nat → Nat} {E : Nat} {L : List Nat} {V V1 : Vt} {π : Nat → Nat} {g : Gh} {n : Nat}
/-- the commands that were read stay -/
def Kc (σ : Hp) (S : MS) (σ' : Hp) (S' : MS) : Prop := ((∀ i, σ'.fi i 53 = σ.fi i 53) ∧ σ'.ar 55 = σ.ar 55 ∧ σ'.ar 56 = σ.ar 56 ∧ σ'.ar 57 = σ.ar 57) ∧ S'.1 28 = S.1 28 ∧ S'.2 50 = S.2 50
theorem Kc.rfl : Kc σ S σ S := ⟨⟨fun _ => Eq.refl _, Eq.refl _, Eq.refl _, Eq.refl _⟩, Eq.refl _, Eq.refl _⟩
theorem Kc.tr (h : Kc σ S σ1 S1) (k : Kc σ1 S1 σ' S') : Kc σ S σ' S' := ⟨⟨fun i => (k.1.1 i).trans (h.1.1 i), k.1.2.1.trans h.1.2.1, k.1.2.2.1.trans h.1.2.2.1, k.1.2.2.2.trans h.1.2.2.2⟩, k.2.1.trans h.2.1, k.2.2.trans h.2.2⟩
theorem Iv.jr2 (h : Iv σ S E L V π g own) (j : Jr σ S E L V1 σ' S') : (∃ E' L' V' π' g' own', Iv σ' S' E' L' V' π' g' own') ∧ Kc σ S σ' S' := by
  obtain ⟨E', L', V', π', g', jc, kq, jq, sm⟩ := j
  obtain ⟨own', i⟩ := h.kq jc kq jq
  obtain ⟨⟨a1, a2, a3, a4, a5, a6, a7⟩, -, -, ⟨d1, d2, d3, d4⟩, -⟩ := h
  have fx : ∀ x, 53 ≤ x → x ≤ 57 → ¬ (Fp 3 E L x ∨ (14 ≤ x ∧ x ≤ 26)) := fun x q1 q2 z => by
    rcases z with z | z
    · have := d2 x z
      rw [d1.f (by omega) (by omega) (by omega)] at this
      omega
    · omega
  have q := fun x h1 h2 => kq.1.2.2 x (by omega) (fx x h1 h2)
  exact ⟨⟨E', L', V', π', g', own', i⟩, ⟨(q 53 (by omega) (by omega)).1, (q 55 (by omega) (by omega)).2.2.1, (q 56 (by omega) (by omega)).2.2.1, (q 57 (by omega) (by omega)).2.2.1⟩, jq.1.1 28 (by unfold Rd; omega), jq.1.2 50 (by unfold Rb; omega)⟩
theorem Iv.rep (h : Iv σ S E L V π g own) (q : Qr σ S σ' S') : Iv σ' S' E L V π g own ∧ Kc σ S σ' S' := by
  obtain ⟨q1, q2, q3, q4⟩ := q
  have dn : Dn Ac σ σ' := q2.mono (fun x hx => by unfold Ar at hx; unfold Ac; omega)
  refine ⟨h.cm dn ?_ q1 ⟨fun j hj => q3 j (by omega), fun k hk => q4 k (by omega)⟩, ⟨(q2.2 53 (by unfold Ar; omega)).1, (q2.2 55 (by unfold Ar; omega)).2, (q2.2 56 (by unfold Ar; omega)).2, (q2.2 57 (by unfold Ar; omega)).2⟩, q3 28 (by omega), q4 50 (by omega)⟩
  obtain ⟨-, -, -, ⟨a, b, c, ⟨n, d1, d2, d3, d4⟩, e, f⟩, -⟩ := h.2.2.1
  obtain ⟨s1, s2, s3, -⟩ := q2.1
  have p53 := (q2.2 53 (by unfold Ar; omega)).1
  have p54 := (q2.2 54 (by unfold Ar; omega)).2
  refine ⟨by rw [s1]; exact a, by rw [s2]; exact b, by rw [s3]; exact c, ⟨n, d1, (p53 _).trans d2, (q4 44 (by omega)).trans d3, fun i hi => by rw [p54, q3 26 (by omega)]; exact d4 i hi⟩, by rw [p53, q4 45 (by omega)]; exact e, fun i hi => by rw [q3 27 (by omega)]; exact f i hi⟩
/-- after a command: both hold one state, the commands stay -/
def Go1 (σ : Hp) (S : MS) (σ' : Hp) (S' : MS) : Prop := (∃ E L V π g own, Iv σ' S' E L V π g own) ∧ Kc σ S σ' S'
theorem Go1.rep (h : Go1 σ S σ1 S1) (q : Qr σ1 S1 σ' S') : Go1 σ S σ' S' := by
  obtain ⟨⟨E, L, V, π, g, own, i⟩, k⟩ := h
  obtain ⟨i2, k2⟩ := i.rep q
  exact ⟨⟨E, L, V, π, g, own, i2⟩, k.tr k2⟩
theorem Iv.rq (h : Iv σ S E L V π g own) : RQ σ S := h.2.2.1.2.2.2.2
theorem Iv.g1 (h : Iv σ S E L V π g own) : Go1 σ S σ S := ⟨⟨E, L, V, π, g, own, h⟩, Kc.rfl⟩
/-- put -/
theorem act0 (h : Iv σ S E L V π g own) {w : Nat} (hw : isW w) (b : Int32) : ∃ σ' S', kX11_act σ 2 0 (nI w) b = some σ' ∧ (r_canPut S (nI w)).bind (fun v8 => if v8 = 0 then r_doOne_74 (-1) S else bd2 (r_tellWord S (nI w)) (fun v9 S10 => r_doOne_74 v9 S10)) = some S' ∧ Go1 σ S σ' S' := by
  obtain ⟨p, a1, a2, a3⟩ := j_can h.bv h.lk h.k14 h.c701 (nI w)
  unfold kX11_act
  rw [if_pos (Eq.refl _), h.lk.f9, bind_s, ckd_ok h.lk.1, a1, bind_s, a2, bind_s]
  unfold kX11_act_76 r_doOne_74
  cases p with
  | false =>
    obtain ⟨σ1, S1, b1, b2, b3⟩ := j_nno h.rq none (fun t ht => by cases ht)
    have b1 : kX5_addNumberOrNo σ 58 (-1) = some σ1 := b1
    have b2 : r_sayNumberOrNo S (-1) = some S1 := b2
    rw [bI_f (show ¬ false = true by decide), if_pos (Eq.refl _), if_pos (Eq.refl _), ckd_ok h.rq.1.1, b1, bind_s, b2, bind_s]
    exact ⟨σ1, S1, Eq.refl _, Eq.refl _, h.g1.rep b3⟩
  | true =>
    obtain ⟨hc, -⟩ := a3 (Eq.refl _)
    obtain ⟨t, σ1, S1, V1, ht, d1, d2, d3, d4⟩ := j_putw h.jc h.bv hc hw
    obtain ⟨⟨E', L', V', π', g', own', i⟩, kc⟩ := h.jr2 d4
    obtain ⟨σ2, S2, b1, b2, b3⟩ := j_nno i.rq (some t) (fun s hs => by cases hs; omega)
    have b1 : kX5_addNumberOrNo σ1 58 (nI t) = some σ2 := b1
    have b2 : r_sayNumberOrNo S1 (nI t) = some S2 := b2
    rw [bI_t (Eq.refl _), if_neg (show ¬ (1 : Int32) = 0 by decide), if_neg (show ¬ (1 : Int32) = 0 by decide), h.lk.f0, bind_s, h.bv.1.k3, d1, bind_s, ckd_ok h.lk.1, d2, bd2_s, ckd_ok i.rq.1.1, b1, bind_s, d3, bd2_s, b2, bind_s]
    exact ⟨σ2, S2, Eq.refl _, Eq.refl _, Go1.rep ⟨⟨E', L', V', π', g', own', i⟩, kc⟩ b3⟩
/-- drop -/
theorem act1 (h : Iv σ S E L V π g own) {w : Nat} (hw : isW w) (b : Int32) : ∃ σ' S', kX11_act σ 2 1 (nI w) b = some σ' ∧ (r_thingOf S (nI w)).bind (fun v11 => if v11 = (-1) then r_doOne_94 v11 S else (r_dropNow S v11).bind (fun S12 => r_doOne_94 v11 S12)) = some S' ∧ Go1 σ S σ' S' := by
  obtain ⟨o, o1, o2, o3⟩ := j_nof h.bv hw
  unfold kX11_act
  rw [if_neg (show ¬ (1 : Int32) = 0 by decide), if_pos (Eq.refl _), h.lk.f0, bind_s, h.bv.1.k3, o1, bind_s, o2, bind_s]
  unfold kX11_act_114 r_doOne_94
  cases o with
  | none =>
    obtain ⟨σ1, S1, b1, b2, b3⟩ := j_nno h.rq none (fun t ht => by cases ht)
    rw [if_pos (show o2i (none : Option Nat) = -1 from Eq.refl _), if_pos (show o2i (none : Option Nat) = -1 from Eq.refl _), h.lk.f9, bind_s, ckd_ok h.rq.1.1, b1, bind_s, b2, bind_s]
    exact ⟨σ1, S1, Eq.refl _, Eq.refl _, h.g1.rep b3⟩
  | some t =>
    have ht := o3 t (Eq.refl _)
    have t40 := ht.1
    have nt : ¬ o2i (some t) = -1 := fun y => (nI_m1 (by omega)).mp y
    have e : o2i (some t) = nI t := Eq.refl _
    obtain ⟨v, σ2, S2, d1, d2, d3⟩ := jc_out h.jc ht Kq.rfl Jq.rfl
    have fin : ∀ σ3, Jr σ S E L (drV V t) σ3 S2 → ∃ σ4 S4, (gfr σ3 21 1109 2).bind (fun v10 => ckd σ3 v10 15 ((kX5_addNumberOrNo σ3 v10 (nI t)).bind (fun σ11 => some σ11))) = some σ4 ∧ (r_sayNumberOrNo S2 (nI t)).bind (fun S4 => some S4) = some S4 ∧ Go1 σ S σ4 S4 := fun σ3 j => by
      obtain ⟨⟨E', L', V', π', g', own', i⟩, kc⟩ := h.jr2 j
      obtain ⟨σ4, S4, b1, b2, b3⟩ := j_nno i.rq (some t) (fun s hs => by cases hs; omega)
      have b1 : kX5_addNumberOrNo σ3 58 (nI t) = some σ4 := b1
      have b2 : r_sayNumberOrNo S2 (nI t) = some S4 := b2
      exact ⟨σ4, S4, by rw [i.lk.f9, bind_s, ckd_ok i.rq.1.1, b1, bind_s], by rw [b2, bind_s], Go1.rep ⟨⟨E', L', V', π', g', own', i⟩, kc⟩ b3⟩
    rw [if_neg nt, if_neg nt, e, ckd_ok h.lk.1, d1, bd2_s, d2, bind_s]
    rcases d3 with ⟨rfl, d4⟩ | ⟨rfl, l1, l2, σ3, d5, d4⟩
    · obtain ⟨σ4, S4, f1, f2, f3⟩ := fin σ2 d4
      rw [if_pos (Eq.refl _)]
      exact ⟨σ4, S4, f1, f2, f3⟩
    · obtain ⟨σ4, S4, f1, f2, f3⟩ := fin σ3 d4
      rw [if_neg (show ¬ (1 : Int32) = 0 by decide), l1.f3, bind_s, ckd_ok l2, d5, bind_s]
      exact ⟨σ4, S4, f1, f2, f3⟩
/-- measure -/
theorem act4 (h : Iv σ S E L V π g own) {k : Nat} (hk : k ≤ 3) (b : Int32) : ∃ σ' S', kX11_act σ 2 4 (nI k) b = some σ' ∧ bd2 (r_setNow S 3 (nI k) 0 3 0) (fun v13 S14 => (r_sayOk S14 v13).bind (fun S15 => some S15)) = some S' ∧ Go1 σ S σ' S' := by
  obtain ⟨σ2, σ3, σ4, S4, a1, a2, a3, a4, a5, a6, a7, a8, a9⟩ := j_meas h.jc hk
  obtain ⟨⟨E', L', V', π', g', own', i⟩, kc⟩ := h.jr2 a9
  obtain ⟨σ5, S5, b1, b2, b3⟩ := j_ok i.rq
  refine ⟨σ5, S5, ?_, ?_, Go1.rep ⟨⟨E', L', V', π', g', own', i⟩, kc⟩ b3⟩
  · unfold kX11_act
    rw [if_neg (by decide), if_neg (by decide), if_neg (by decide), if_neg (by decide), if_pos (Eq.refl _), h.lk.f0, bind_s, a1, bind_s, a2.f2, bind_s, a2.f0, bind_s, ckd_ok a3, a4, bind_s, a5.f3, bind_s, ckd_ok a6, a7, bind_s, i.lk.f9, bind_s, ckd_ok i.rq.1.1, b1, bind_s]
  · have q : (0 : Int32) ≤ nI k ∧ nI k ≤ 3 := ⟨nI_pos' (by omega), by rw [show (3 : Int32) = nI 3 from Eq.refl _]; exact nI_le hk (by omega)⟩
    unfold r_setNow
    rw [r_isIn_b, bind_s, bI_t q, if_neg (show ¬ (1 : Int32) = 0 by decide), if_pos (Eq.refl _), a8, bd2_s, b2, bind_s]
/-- cap -/
theorem act5 (h : Iv σ S E L V π g own) (x b : Int32) : ∃ σ' S', kX11_act σ 2 5 x b = some σ' ∧ bd2 (r_setNow S 4 x 2 6 0) (fun v13 S14 => (r_sayOk S14 v13).bind (fun S15 => some S15)) = some S' ∧ Go1 σ S σ' S' := by
  unfold kX11_act r_setNow kX11_act_263
  rw [if_neg (by decide), if_neg (by decide), if_neg (by decide), if_neg (by decide), if_neg (by decide), if_pos (Eq.refl _), isCap_eq, bind_s, r_isIn_b, bind_s]
  by_cases q : (2 : Int32) ≤ x ∧ x ≤ 6
  · obtain ⟨k, hk1, hk2, rfl⟩ := rng (a := 2) (b := 6) (by omega) (by omega) q
    obtain ⟨σ2, σ4, S4, a1, a5, a6, a7, a8, a9⟩ := j_cap h.jc ⟨hk1, hk2⟩
    obtain ⟨⟨E', L', V', π', g', own', i⟩, kc⟩ := h.jr2 a9
    obtain ⟨σ5, S5, b1, b2, b3⟩ := j_ok i.rq
    refine ⟨σ5, S5, ?_, ?_, Go1.rep ⟨⟨E', L', V', π', g', own', i⟩, kc⟩ b3⟩
    · rw [bI_t q, if_neg (show ¬ (1 : Int32) = 0 by decide), h.lk.f0, bind_s, a1, bind_s, a5.f3, bind_s, ckd_ok a6, a7, bind_s, i.lk.f9, bind_s, isCap_eq, bind_s, bI_t q, ckd_ok i.rq.1.1, b1, bind_s]
    · rw [bI_t q, if_neg (show ¬ (1 : Int32) = 0 by decide), if_pos (Eq.refl _), a8, bd2_s, b2, bind_s]
  · obtain ⟨σ5, S5, b1, b2, b3⟩ := j_ok0 h.rq
    refine ⟨σ5, S5, ?_, ?_, h.g1.rep b3⟩
    · rw [bI_f q, if_pos (Eq.refl _), h.lk.f9, bind_s, bind_s, ckd_ok h.rq.1.1, b1, bind_s]
    · rw [bI_f q, if_pos (Eq.refl _), show zb 0 = some 0 from Eq.refl _, bind_s, bd2_s, b2, bind_s]
/-- how far two words are -/
theorem act6 (h : Iv σ S E L V π g own) {w v : Nat} (hw : isW w) (hv : isW v) : ∃ σ' S', kX11_act σ 2 6 (nI w) (nI v) = some σ' ∧ bd2 (r_apartOf S (nI w) (nI v)) (fun v20 S21 => (r_sayNumber S21 v20).bind (fun S22 => some S22)) = some S' ∧ Go1 σ S σ' S' := by
  obtain ⟨r, q, mo⟩ := h.mo
  have l1 := isW_lt hw
  have l2 := isW_lt hv
  have m4 := h.2.1.2.1.2.1
  obtain ⟨s, r', q', g1, g2, g3⟩ := kX2_between_eq (μ := V.M) mo l1.2 l2.2 m4
  obtain ⟨T, k1, k2⟩ := r_apartOf_eq (S := S) hw hv m4 h.bv.2.1.w.1.1
  have i := h.mr g2 ⟨r', q', g3⟩ k2.rk
  obtain ⟨σ5, S5, b1, b2, b3⟩ := j_num i.rq (t := apart V.M w v) (Nat.le_trans (apart_le _ _ _) (by omega))
  have kc : Kc σ S s T := ⟨⟨fun i => by rw [g2.1.2.2.1], g2.2.1 55 (by omega), g2.2.1 56 (by omega), g2.2.1 57 (by omega)⟩, k2.r (by omega) (by omega), by rw [k2.f]⟩
  refine ⟨σ5, S5, ?_, ?_, Go1.rep ⟨⟨E, L, V, π, g, own, i⟩, kc⟩ b3⟩
  · unfold kX11_act
    rw [if_neg (by decide), if_neg (by decide), if_neg (by decide), if_neg (by decide), if_neg (by decide), if_neg (by decide), if_pos (Eq.refl _), h.lk.f9, bind_s, h.lk.m, bind_s, h.lk.f0, bind_s, gfi_ok h.1.1.ks, bind_s, h.m6, ckd_ok h.k14, g1, bd2_s, ckd_ok i.rq.1.1, b1, bind_s]
  · rw [k1, bd2_s, b2, bind_s]
/-- how many things -/
theorem act7 (h : Iv σ S E L V π g own) (a b : Int32) : ∃ σ' S', kX11_act σ 2 7 a b = some σ' ∧ (r_things S).bind (fun v23 => (r_sayNumber S v23).bind (fun S24 => some S24)) = some S' ∧ Go1 σ S σ' S' := by
  have c40 := cn_le V
  obtain ⟨σ5, S5, b1, b2, b3⟩ := j_num h.rq (t := cn V) (by omega)
  refine ⟨σ5, S5, ?_, ?_, h.g1.rep b3⟩
  · unfold kX11_act
    rw [if_neg (by decide), if_neg (by decide), if_neg (by decide), if_neg (by decide), if_neg (by decide), if_neg (by decide), if_neg (by decide), if_pos (Eq.refl _), h.lk.f9, bind_s, h.lk.f0, bind_s, gfi_ok h.1.1.ks, bind_s, h.c701, ckd_ok h.rq.1.1, b1, bind_s]
  · rw [r_things_eq h.bv.2.1.w h.2.1.2.1, bind_s, b2, bind_s]
end ACT
