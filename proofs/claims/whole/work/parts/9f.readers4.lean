section READ4
variable {σ : Hp} {S : MS} {V : Vt} {π : Nat → Nat}
theorem w_or (x : Int32) : letters x.toNatClampNeg = none ∨ ∃ w, isW w ∧ x = nI w := by
  rcases i_or x with q | ⟨t, t1, rfl⟩
  · exact Or.inl (by rw [clamp_neg q]; rfl)
  · rw [nI_clamp t1]
    cases e : letters t with
    | none => exact Or.inl rfl
    | some c => exact Or.inr ⟨t, by unfold isW; rw [e]; rfl, rfl⟩
theorem c_lw {w : Nat} (h : isW w) {b : Nat} : kX2_lettersIn σ b (nI w) = some (nI (cl w)) := by
  have := isW_lt h
  rw [kX2_lettersIn_eq, nI_clamp (by omega), isW_cl h]; rfl
theorem c_lnone {x : Int32} (h : letters x.toNatClampNeg = none) {b : Nat} : kX2_lettersIn σ b x = some (-1) := by
  rw [kX2_lettersIn_eq, h]; rfl
theorem cl_ne {w : Nat} (h : isW w) : ¬ nI (cl w) = -1 := fun y => (nI_m1 (by have := cl_le w; omega)).mp y
theorem r_isWord_w {w : Nat} (h : isW w) : r_isWord S (nI w) = some 1 := by
  unfold r_isWord
  rw [r_lettersOf_w h, bind_s, if_neg (cl_ne h)]; rfl
theorem r_isWord_none {x : Int32} (h : letters x.toNatClampNeg = none) : r_isWord S x = some 0 := by
  unfold r_isWord
  rw [r_lettersOf_eq, h, bind_s, if_pos (show o2i (none : Option Nat) = -1 from rfl)]; rfl
theorem Lk.m (lk : Lk σ) : gfr σ 21 1101 2 = some 14 := by rw [gfr_ok lk.1, lk.2.2.1]
theorem j_apart (h : Bv σ S V π) (lk : Lk σ) {r q : Nat} (mo : Mo σ r q) (m6 : σ.fi 706 3 = nI V.M) (x y : Int32) : ∃ v σ1 T r' q', kX11_apart σ 2 x y = some (v, σ1) ∧ r_apart S x y = some (v, T) ∧ Mr σ σ1 ∧ Mo σ1 r' q' ∧ S2 S T := by
  have k14 := mo.1.1
  unfold kX11_apart r_apart
  rw [lk.m, bind_s, ckd_ok k14]
  rcases w_or x with e | ⟨w, hw, rfl⟩
  · rw [c_lnone e, bind_s, if_pos rfl, r_isWord_none e, bind_s, if_pos rfl]
    exact ⟨_, _, _, r, q, rfl, rfl, Mr.rfl, mo, S2.rfl⟩
  · rw [c_lw hw, bind_s, if_neg (cl_ne hw), r_isWord_w hw]
    simp only [bind_s]
    rw [if_neg (show ¬ (1 : Int32) = 0 by decide), ckd_ok k14]
    rcases w_or y with e | ⟨v, hv, rfl⟩
    · rw [c_lnone e, bind_s, if_pos rfl, r_isWord_none e, bind_s, if_pos rfl]
      exact ⟨_, _, _, r, q, rfl, rfl, Mr.rfl, mo, S2.rfl⟩
    · have l1 := isW_lt hw
      have l2 := isW_lt hv
      obtain ⟨s, r', q', g1, g2, g3⟩ := kX2_between_eq (μ := V.M) mo l1.2 l2.2 h.2.2.2.1
      obtain ⟨T, k1, k2⟩ := r_apartOf_eq (S := S) hw hv h.2.2.2.1 h.2.1.w.1.1
      rw [c_lw hv, bind_s, if_neg (cl_ne hv), r_isWord_w hv, bind_s, if_neg (show ¬ (1 : Int32) = 0 by decide), lk.s, bind_s, gfi_ok h.1.1.2.1, bind_s, m6, ckd_ok k14, g1, bd2_s, k1, bd2_s]
      exact ⟨_, _, _, r', q', rfl, rfl, g2, g3, k2⟩
theorem ffi_none {f : Nat → Option Nat} : ∀ (m i : Nat), (∀ t, i ≤ t → t < i + m → f t = none) → ffi f m i = none
  | 0, _, _ => rfl
  | m + 1, i, h => by
    unfold ffi
    rw [h i (by omega) (by omega)]
    exact ffi_none m (i + 1) (fun t a b => h t (by omega) (by omega))
theorem c_numberOf (h : Bv σ S V π) {w : Nat} (hw : isW w) : ∀ (m F i : Nat), m < F → i + m = 40 → kX7_numberOf_2 σ F 3 (nI w) (nI i) = some (o2i (ffi (fun t => if hs V t ∧ nI (V.W t) = nI w then some t else none) m i))
  | m, 0, _, h, _ => absurd h (Nat.not_lt_zero m)
  | 0, F + 1, i, _, hi => by
    have : i = 40 := by omega
    subst this
    unfold kX7_numberOf_2
    rw [if_pos (by decide)]
    rfl
  | m + 1, F + 1, i, hF, hi => by
    have e40 : (40 : Int32) = nI 40 := rfl
    have l := isW_lt hw
    have l31 := isW_31 (h.2.2.1 i (by omega))
    unfold kX7_numberOf_2 ffi
    rw [e40, if_neg (nI_ge (by omega) (by omega)), gfr_ok h.1.1.2.1, bind_s, h.1.2.1.2.2.1, ald_ok h.1.1.2.2.2.1 (by rw [h.1.1.2.2.2.2.1]; omega) (by omega), bind_s, h.1.2.2.1 i (by omega)]
    by_cases z : nI (V.W i) = nI w
    · have : V.W i = w := (nI_eq l31 (by omega)).mp z
      rw [if_pos z, if_pos ⟨⟨by omega, by omega⟩, z⟩]
      rfl
    · rw [if_neg z, if_neg (fun y => z y.2), nI_1]
      exact c_numberOf h hw m F (i + 1) (by omega) (by omega)
theorem j_thing (h : Bv σ S V π) (lk : Lk σ) (k14 : σ.kd 14 = 12) (x : Int32) : ∃ r, kX11_thing σ 2 x = some r ∧ r_thing S x = some r := by
  unfold kX11_thing r_thing r_thingOf
  rw [lk.m, bind_s, ckd_ok k14, show (0 : Int32) = nI 0 from rfl, r_thingOf_2_eq h.2.1.w h.2.2 40 FU 0 (FU_gt (by omega)) rfl, bind_s]
  rcases w_or x with e | ⟨w, hw, rfl⟩
  · rw [c_lnone e, bind_s, if_pos rfl, ffi_none]
    · exact ⟨_, rfl, rfl⟩
    · intro t _ ht
      refine if_neg (fun y => ?_)
      have iw : isW (V.W t) := by
        rcases h.2.2.1 t y.1.1 with a | a
        · exact absurd a y.1.2
        · exact a
      have l := isW_lt iw
      rw [← y.2, nI_clamp (by omega)] at e
      unfold isW at iw
      rw [e] at iw
      cases iw
  · unfold kX7_numberOf
    rw [c_lw hw, bind_s, if_neg (cl_ne hw), lk.s, bind_s, h.1.k3, show (0 : Int32) = nI 0 from rfl, c_numberOf h hw 40 FU 0 (FU_gt (by omega)) rfl, bind_s]
    exact ⟨_, rfl, rfl⟩
theorem j_letter (h : Bv σ S V π) (lk : Lk σ) {r q : Nat} (mo : Mo σ r q) (x y : Int32) : ∃ v σ1, kX11_letter σ 2 x y = some (v, σ1) ∧ r_letter S x y = some v ∧ Mr σ σ1 ∧ Mo σ1 r q := by
  have k14 := mo.1.1
  unfold kX11_letter r_letter kX2_letterAt
  obtain ⟨p, p1, p2, p3⟩ := h.h x
  rw [lk.s, bind_s, h.1.k3, p1, bind_s, p2, bind_s, bI_0', bI_0']
  cases p with
  | false => rw [if_pos (show ¬ (false = true) by decide), if_pos (show ¬ (false = true) by decide)]; exact ⟨_, _, rfl, rfl, Mr.rfl, mo⟩
  | true =>
    obtain ⟨t, rfl, t2⟩ := p3 rfl
    have iw : isW (V.W t) := by
      rcases h.2.2.1 t t2.1 with a | a
      · exact absurd a t2.2
      · exact a
    have l := isW_lt iw
    have c6 := cl_le (V.W t)
    obtain ⟨f, f1, f2⟩ := kX2_spellOut_eq (σ := σ) (x1 := 15) l.2 mo.1.2.1 mo.2.1.1
    have tt := t2.1
    rw [if_neg (show ¬ ¬ (true = true) by decide), if_neg (show ¬ ¬ (true = true) by decide), lk.m, bind_s, bind_s, gfr_ok h.1.1.2.1, bind_s, h.1.2.1.2.2.1, ald_ok h.1.1.2.2.2.1 (by rw [h.1.1.2.2.2.2.1]; exact t2.1) (by omega), bind_s, h.1.2.2.1 t t2.1, ckd_ok k14, gfr_ok k14, bind_s, mo.2.2.1.1, f1, bd2_s, r_wordOf_eq h.2.1.w t2.1, bind_s, r_lettersOf_w iw, bind_s, r_isIn_b, bind_s, bI_0', bind_s]
    have g15 : gfr (saw σ 15 f) 12 200 14 = some 15 := by rw [gfr_ok (show (saw σ 15 f).kd 14 = 12 from k14)]; exact congrArg some mo.2.2.1.1
    by_cases z : ∃ i, i < cl (V.W t) ∧ y = nI i
    · have z2 := (in_nat (by omega)).mpr z
      obtain ⟨i, hi, rfl⟩ := z
      rw [if_neg (nI_pos (show i < 2 ^ 31 by omega)), if_neg (nI_ge hi (by omega)), if_neg (not_not_intro z2), g15, bind_s, ald_ok (show (saw σ 15 f).kd 15 = 1 from mo.1.2.1) (by rw [show (saw σ 15 f).ln 15 = 6 from mo.2.1.1]; omega) (by omega), bind_s, ar_saw, f2 i (by omega), r_letterAt_w iw (by omega), bind_s]
      exact ⟨_, _, rfl, rfl, Mr.saw (by omega), mo.saw⟩
    · have z2 := fun u => z ((in_nat (x := y) (n := cl (V.W t)) (by omega)).mp u)
      rw [if_pos z2]
      rcases i_or y with u | ⟨u, u1, rfl⟩
      · rw [if_pos u]; exact ⟨_, _, rfl, rfl, Mr.saw (by omega), mo.saw⟩
      · rw [if_neg (nI_pos u1), if_pos (nI_le (by by_cases y : u < cl (V.W t); exact absurd ⟨u, y, rfl⟩ z; omega) u1)]
        exact ⟨_, _, rfl, rfl, Mr.saw (by omega), mo.saw⟩
end READ4
