section READ3
variable {σ : Hp} {S : MS} {V : Vt} {π : Nat → Nat}
theorem j_chain2 (h : Bv σ S V π) (sr : Sr σ) (lk : Lk σ) (x y : Int32) : ∃ r σ1 T, kX11_chain σ 2 x y = some (r, σ1) ∧ r_chain S x y = some (r, T) ∧ Sv σ σ1 ∧ Rk S T := by
  have cl := cn_le V
  unfold kX11_chain r_chain
  obtain ⟨p, p1, p2, p3⟩ := h.h x
  rw [lk.s, bind_s, h.1.k3, p1, bind_s, bind_s, p2, bind_s, bI_0', bI_0']
  cases p with
  | false => rw [if_pos (show ¬ (false = true) by decide), if_pos (show ¬ (false = true) by decide)]; exact ⟨_, _, _, rfl, rfl, Sv.rfl, Rk.rfl⟩
  | true =>
    obtain ⟨t, rfl, t2⟩ := p3 rfl
    obtain ⟨s, T, tot, g1, g2, g3, g4, g5, g6⟩ := j_chain h sr t2
    rw [if_neg (show ¬ ¬ (true = true) by decide), if_neg (show ¬ ¬ (true = true) by decide), g2, bd2_s, r_isIn_b, bind_s, bI_0', h.1.n, bind_s]
    by_cases z : ∃ i, i < cn V ∧ y = nI i
    · have z2 := (in_nat cl).mpr z
      obtain ⟨i, hi, rfl⟩ := z
      have sr1 := sr.sv g5
      have hs1 := h.sv g5
      rw [if_neg (nI_pos (show i < 2 ^ 31 by omega)), if_pos (nI_lt hi (by omega)), lk.v, bind_s, h.1.k33, g1, bd2_s, (lk.sv g5).v, bind_s, gfr_ok hs1.1.1.1, bind_s, sr1.2.2.1, ald_ok sr1.1.1 (by rw [sr1.2.1.1]; omega) (by omega), bind_s, if_neg (not_not_intro z2), rd_ok (show i < m_len 25 by rw [len25]; omega) (by omega), bind_s, g4 i hi]
      exact ⟨_, _, _, rfl, rfl, g5, g6⟩
    · have z2 := fun q => z ((in_nat (x := y) cl).mp q)
      rw [if_pos z2]
      rcases i_or y with q | ⟨u, u1, rfl⟩
      · rw [if_pos q]; exact ⟨_, _, _, rfl, rfl, Sv.rfl, g6⟩
      · rw [if_neg (nI_pos u1), if_neg (nI_nlt (by by_cases y : u < cn V; exact absurd ⟨u, y, rfl⟩ z; omega) u1)]
        exact ⟨_, _, _, rfl, rfl, Sv.rfl, g6⟩
theorem c_brkOut (h : Bv σ S V π) {x : Int32} (hx : ¬ (0 ≤ x ∧ x ≤ 3)) : ∃ σ', kX8_findBreak σ 33 x = some (0, σ') ∧ Sv σ σ' := by
  have k := h.1.1.1
  unfold kX8_findBreak
  rw [pfi_ok k, bind_s, pfi_ok (show (sfi σ 802 33 (-1)).kd 33 = 18 from k), bind_s, pfi_ok (show (sfi (sfi σ 802 33 (-1)) 803 33 (-1)).kd 33 = 18 from k), bind_s]
  have sv : Sv σ (sfi (sfi (sfi σ 802 33 (-1)) 803 33 (-1)) 804 33 (-1)) := Sv.sfi.trans (Sv.sfi.trans Sv.sfi)
  by_cases a : x < 0
  · rw [if_pos a]; exact ⟨_, rfl, sv⟩
  · rw [if_neg a]
    by_cases b : x ≤ 3
    · exact absurd ⟨Int32.not_lt.mp a, b⟩ hx
    · rw [if_neg b]; exact ⟨_, rfl, sv⟩
theorem to3 {x : Int32} (h : 0 ≤ x ∧ x ≤ 3) : ∃ w, w < 4 ∧ x = nI w := by
  rcases i_or x with q | ⟨t, t1, rfl⟩
  · exact absurd h.1 (Int32.not_le.mpr q)
  · by_cases z : t < 4
    · exact ⟨t, z, rfl⟩
    · exact absurd h.2 (nI_ge (show 3 < t by omega) (by omega))
theorem j_broken (h : Bv σ S V π) (lk : Lk σ) (x : Int32) : ∃ r σ1 T, kX11_broken σ 2 x = some (r, σ1) ∧ r_broken S x = some (r, T) ∧ Sv σ σ1 ∧ Rk S T := by
  unfold kX11_broken r_broken
  rw [lk.v, bind_s, h.1.k33, r_isIn_b, bind_s, bI_0']
  by_cases z : 0 ≤ x ∧ x ≤ 3
  · obtain ⟨w, hw, rfl⟩ := to3 z
    obtain ⟨s, g1, g2, -⟩ := c_findBreak h hw
    obtain ⟨T, k1, k2, -⟩ := r_findBroken_eq h hw
    rw [if_neg (not_not_intro z), g1, bd2_s, k1, bd2_s]
    cases (brk V w).isSome with
    | false => exact ⟨_, _, _, rfl, rfl, g2, k2⟩
    | true => exact ⟨_, _, _, rfl, rfl, g2, k2⟩
  · obtain ⟨s, g1, g2⟩ := c_brkOut h z
    rw [if_pos z, g1, bd2_s]
    exact ⟨_, _, _, rfl, rfl, g2, Rk.rfl⟩
theorem j_breaks (h : Bv σ S V π) (lk : Lk σ) (x y : Int32) : ∃ r σ1 T, kX11_breaks σ 2 x y = some (r, σ1) ∧ r_breaks S x y = some (r, T) ∧ Sv σ σ1 ∧ Rk S T := by
  unfold kX11_breaks r_breaks r_broken
  rw [lk.v, bind_s, h.1.k33, r_isIn_b, bind_s, bI_0', r_isIn_b, bind_s, bI_0']
  have hy : (0 ≤ y ∧ y ≤ 2) ↔ (y = 0 ∨ y = 1 ∨ y = 2) := by
    constructor
    · intro q
      rcases i_or y with a | ⟨t, t1, rfl⟩
      · exact absurd q.1 (Int32.not_le.mpr a)
      · by_cases z : t < 3
        · rcases (show t = 0 ∨ t = 1 ∨ t = 2 by omega) with rfl | rfl | rfl
          · exact Or.inl rfl
          · exact Or.inr (Or.inl rfl)
          · exact Or.inr (Or.inr rfl)
        · exact absurd q.2 (nI_ge (show 2 < t by omega) (by omega))
    · rintro (rfl | rfl | rfl) <;> decide
  by_cases z : 0 ≤ x ∧ x ≤ 3
  · obtain ⟨w, hw, rfl⟩ := to3 z
    obtain ⟨s, g1, g2, g3⟩ := c_findBreak h hw
    obtain ⟨T, k1, k2, k3⟩ := r_findBroken_eq h hw
    have l1 := (lk.sv g2).v
    have ks := (h.sv g2).1.1.1
    rw [if_neg (not_not_intro z), g1, bd2_s, k1, bd2_s]
    cases b : brk V w with
    | none =>
      rw [show bI ((none : Option (Nat × Nat × Int32)).isSome = true) = 0 from rfl, if_pos rfl, if_pos rfl]
      by_cases q : 0 ≤ y ∧ y ≤ 2
      · rw [if_neg (not_not_intro q)]; exact ⟨_, _, _, rfl, rfl, g2, k2⟩
      · rw [if_pos q]; exact ⟨_, _, _, rfl, rfl, g2, Rk.rfl⟩
    | some p =>
      obtain ⟨a0, a1, a2⟩ := g3 p b
      obtain ⟨c0, c1, c2⟩ := k3 p b
      have d0 : rd T 22 0 = some (nI p.1) := by rw [show (0 : Int32) = nI 0 from rfl, rd_ok (by decide) (by decide), c0]
      have d1 : rd T 22 1 = some (nI p.2.1) := by rw [show (1 : Int32) = nI 1 from rfl, rd_ok (by decide) (by decide), c1]
      have d2 : rd T 22 2 = some p.2.2 := by rw [show (2 : Int32) = nI 2 from rfl, rd_ok (by decide) (by decide), c2]
      rw [show bI ((some p : Option (Nat × Nat × Int32)).isSome = true) = 1 from rfl, if_neg (show ¬ (1 : Int32) = 0 by decide), if_neg (show ¬ (1 : Int32) = 0 by decide)]
      by_cases q : 0 ≤ y ∧ y ≤ 2
      · rw [if_neg (not_not_intro q)]
        rcases hy.mp q with rfl | rfl | rfl
        · rw [if_pos rfl, l1, bind_s, gfi_ok ks, bind_s, a0]
          refine ⟨_, _, T, rfl, ?_, g2, k2⟩
          show (bd2 (some (1, T)) _) = _
          rw [bd2_s, if_neg (show ¬ (1 : Int32) = 0 by decide), d0]; rfl
        · rw [if_neg (by decide), if_pos rfl, l1, bind_s, gfi_ok ks, bind_s, a1]
          refine ⟨_, _, T, rfl, ?_, g2, k2⟩
          show (bd2 (some (1, T)) _) = _
          rw [bd2_s, if_neg (show ¬ (1 : Int32) = 0 by decide), d1]; rfl
        · rw [if_neg (by decide), if_neg (by decide), if_pos rfl, l1, bind_s, gfi_ok ks, bind_s, a2]
          refine ⟨_, _, T, rfl, ?_, g2, k2⟩
          show (bd2 (some (1, T)) _) = _
          rw [bd2_s, if_neg (show ¬ (1 : Int32) = 0 by decide), d2]; rfl
      · rw [if_pos q, if_neg (fun e => q (hy.mpr (Or.inl e))), if_neg (fun e => q (hy.mpr (Or.inr (Or.inl e)))), if_neg (fun e => q (hy.mpr (Or.inr (Or.inr e))))]
        exact ⟨_, _, _, rfl, rfl, g2, Rk.rfl⟩
  · obtain ⟨s, g1, g2⟩ := c_brkOut h z
    rw [if_pos z, g1, bd2_s, if_pos rfl]
    by_cases q : 0 ≤ y ∧ y ≤ 2
    · rw [if_neg (not_not_intro q)]; exact ⟨_, _, _, rfl, rfl, g2, Rk.rfl⟩
    · rw [if_pos q]; exact ⟨_, _, _, rfl, rfl, g2, Rk.rfl⟩
theorem j_letters (lk : Lk σ) (k14 : σ.kd 14 = 12) (x : Int32) : ∃ r, kX11_letters σ 2 x = some r ∧ r_letters S x = some r := by
  unfold kX11_letters r_letters
  rw [gfr_ok lk.1, lk.2.2.1, bind_s, ckd_ok k14, kX2_lettersIn_eq, bind_s, r_lettersOf_eq, bind_s]
  exact ⟨_, rfl, rfl⟩
end READ3
