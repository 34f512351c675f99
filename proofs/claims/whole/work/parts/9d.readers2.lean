section READ2
variable {σ : Hp} {S : MS} {V : Vt} {π : Nat → Nat}
theorem isFar_eq {x : Int32} : kX11_isFar σ x = some (bI (0 ≤ x ∧ x ≤ 99)) := (r_isIn_b (S := default) : r_isIn _ x 0 99 = _)
theorem isFarN_eq {x : Int32} : r_isFarNumber S x = some (bI (0 ≤ x ∧ x ≤ 99)) := by
  unfold r_isFarNumber
  rw [r_isIn_b, bind_s]
  by_cases z : 0 ≤ x ∧ x ≤ 99
  · rw [bI_t z]; rfl
  · rw [bI_f z]; rfl
theorem far_nat {x : Int32} (h : 0 ≤ x ∧ x ≤ 99) : ∃ r, r ≤ 99 ∧ x = nI r := by
  rcases i_or x with q | ⟨t, t1, rfl⟩
  · exact absurd h.1 (Int32.not_le.mpr q)
  · by_cases z : t ≤ 99
    · exact ⟨t, z, rfl⟩
    · exact absurd h.2 (nI_ge (show 99 < t by omega) (by omega))
theorem j_lonely (h : Bv σ S V π) (lk : Lk σ) : ∃ r T, kX11_lonely σ 2 = some r ∧ r_lonely S = some (r, T) ∧ S2 S T := by
  have cl := cn_le V
  have e2 : (2 : Int32) = nI 2 := rfl
  unfold kX11_lonely kX8_findLonely r_lonely
  rw [lk.v, bind_s, h.1.k33, h.1.s, bind_s, h.1.n, bind_s, r_things_eq h.2.1.w h.2.2, bind_s, e2]
  by_cases z : 2 ≤ cn V
  · obtain ⟨T, g1, g2⟩ := r_lonely_14_eq h
    rw [if_pos (nI_le z (by omega)), if_pos (nI_le z (by omega)), c_lonely h z, bind_s, g1]
    exact ⟨_, T, rfl, rfl, g2⟩
  · rw [if_neg (nI_ge (by omega) (by omega)), if_neg (nI_ge (by omega) (by omega)), bind_s]
    exact ⟨_, _, rfl, rfl, S2.rfl⟩
theorem c_coupleNeg (h : Bv σ S V π) {u x : Int32} (hx : x < 0) : kX8_coupleAt σ 33 u x = some (-1) := by
  have e40 : (40 : Int32) = nI 40 := rfl
  have ne : ∀ n, n < 2 ^ 31 → ¬ nI n = x := fun n hn y => nI_pos hn (by rw [y]; exact hx)
  unfold kX8_coupleAt
  refine lp 40 (fun F i (n : Nat) => kX8_coupleAt_5 σ F 33 u x (nI n) (nI i)) (fun i n => n ≤ 40 * i) (fun r => r = some (-1)) (fun F n j => ?_) (fun F i n hi j => Or.inl ?_) 40 0 FU 0 FU_gt rfl (Nat.le_refl 0)
  · show kX8_coupleAt_5 σ (F + 1) 33 u x (nI n) (nI 40) = _
    rw [kX8_coupleAt_5.eq_2, if_pos (by decide)]
  · have j : n ≤ 40 * i := j
    show ∃ n', n' ≤ 40 * (i + 1) ∧ kX8_coupleAt_5 σ (F + 1) 33 u x (nI n) (nI i) = kX8_coupleAt_5 σ F 33 u x (nI n') (nI (i + 1))
    rw [kX8_coupleAt_5.eq_2, e40, if_neg (nI_ge hi (by omega)), nI_1]
    refine lp 40 (fun F' b (n' : Nat) => kX8_coupleAt_18 σ (kX8_coupleAt_5 σ F) F' 33 u x (nI n') (nI i) (nI b)) (fun b n' => i < b ∧ n' + 40 ≤ 40 * (i + 1) + b) (fun r => ∃ n', n' ≤ 40 * (i + 1) ∧ r = kX8_coupleAt_5 σ F 33 u x (nI n') (nI (i + 1))) (fun F' n' j' => ⟨n', by omega, ?_⟩) (fun F' b n' hb j' => Or.inl ?_) (40 - (i + 1)) (i + 1) FU n FU_gt (by omega) ⟨by omega, by omega⟩
    · show kX8_coupleAt_18 σ (kX8_coupleAt_5 σ F) (F' + 1) 33 u x (nI n') (nI i) (nI 40) = _
      rw [kX8_coupleAt_18.eq_2, if_pos (by decide), nI_1]
    · obtain ⟨j1, j2⟩ := j'
      have j1 : i < b := j1
      have j2 : n' + 40 ≤ 40 * (i + 1) + b := j2
      show ∃ m, (i < b + 1 ∧ m + 40 ≤ 40 * (i + 1) + (b + 1)) ∧ kX8_coupleAt_18 σ (kX8_coupleAt_5 σ F) (F' + 1) 33 u x (nI n') (nI i) (nI b) = kX8_coupleAt_18 σ (kX8_coupleAt_5 σ F) F' 33 u x (nI m) (nI i) (nI (b + 1))
      rw [kX8_coupleAt_18.eq_2, e40, if_neg (nI_ge hb (by omega)), h.1.k33, h.1.pr h.2.2 j1 (by omega), bind_s, bI_0']
      unfold kX8_coupleAt_71
      by_cases z : hs V i ∧ hs V b
      · rw [if_neg (not_not_intro z), h.1.f, bind_s, h.1.k19, h.1.of z.1 z.2, bind_s]
        by_cases y : nI (far V i b) ≤ u
        · rw [if_pos y, if_neg (ne n' (by omega)), nI_1, nI_1]
          exact ⟨n' + 1, ⟨by omega, by omega⟩, rfl⟩
        · rw [if_neg y, nI_1]
          exact ⟨n', ⟨by omega, by omega⟩, rfl⟩
      · rw [if_pos z, nI_1]
        exact ⟨n', ⟨by omega, by omega⟩, rfl⟩
theorem j_couple2 (h : Bv σ S V π) (lk : Lk σ) (x y : Int32) : ∃ r T, kX11_couple σ 2 x y = some r ∧ r_couple S x y = some (r, T) ∧ S2 S T := by
  unfold kX11_couple r_couple
  rw [isFar_eq, bind_s, isFarN_eq, bind_s, bI_0', bI_0']
  by_cases z : 0 ≤ x ∧ x ≤ 99
  · rw [if_neg (not_not_intro z), if_neg (not_not_intro z)]
    by_cases q : y = -1
    · obtain ⟨v, T, g1, g2, g3⟩ := j_spaced h 0 x
      rw [if_pos q, lk.v, bind_s, h.1.k33, g1, bind_s, if_neg (by rw [q]; decide), q, g2, bd2_s]
      exact ⟨_, T, rfl, rfl, g3⟩
    · obtain ⟨v, T, g1, g2, g3⟩ := j_couple h x y q
      by_cases w : y < -1
      · have := c_coupleNeg h (u := x) (x := y) (Int32.lt_trans w (by decide))
        rw [if_neg q, lk.v, bind_s, h.1.k33, this, bind_s, if_pos w]
        exact ⟨_, _, rfl, rfl, S2.rfl⟩
      · rw [if_neg q, lk.v, bind_s, h.1.k33, g1, bind_s, if_neg w, g2, bd2_s]
        exact ⟨_, T, rfl, rfl, g3⟩
  · rw [if_pos z, if_pos z]
    exact ⟨_, _, rfl, rfl, S2.rfl⟩
theorem in_nat {x : Int32} {n : Nat} (hn : n ≤ 40) : (0 ≤ x ∧ x ≤ nI n - 1) ↔ ∃ i, i < n ∧ x = nI i := by
  constructor
  · intro y
    rcases i_or x with q | ⟨t, t1, rfl⟩
    · exact absurd y.1 (Int32.not_le.mpr q)
    · refine ⟨t, ?_, rfl⟩
      by_cases z : t < n
      · exact z
      · exfalso
        by_cases n0 : n = 0
        · have e : nI n - 1 = -1 := by rw [n0]; rfl
          rw [e] at y
          exact absurd (Int32.le_trans y.1 y.2) (by decide)
        · have e : nI n - 1 = nI (n - 1) := by rw [show (1 : Int32) = nI 1 from rfl, pk_sub (by omega)]
          rw [e] at y
          exact nI_ge (show n - 1 < t by omega) (by omega) y.2
  · rintro ⟨i, hi, rfl⟩
    rw [show (1 : Int32) = nI 1 from rfl, pk_sub (by omega)]
    exact ⟨nI_pos' (by omega), nI_le (by omega) (by omega)⟩
theorem Lk.sv {σ' : Hp} (lk : Lk σ) (s : Sv σ σ') : Lk σ' := by
  unfold Lk
  rw [s.1.1, s.1.2.2.1]
  exact lk
theorem j_chainLong (h : Bv σ S V π) (sr : Sr σ) (lk : Lk σ) (x : Int32) : ∃ r σ1 T, kX11_chainLong σ 2 x = some (r, σ1) ∧ r_chainLong S x = some (r, T) ∧ Sv σ σ1 ∧ Rk S T := by
  unfold kX11_chainLong r_chainLong
  obtain ⟨p, p1, p2, p3⟩ := h.h x
  rw [lk.s, bind_s, h.1.k3, p1, bind_s, p2, bind_s, bI_0', bI_0']
  cases p with
  | false => rw [if_pos (by decide), if_pos (by decide)]; exact ⟨_, _, _, rfl, rfl, Sv.rfl, Rk.rfl⟩
  | true =>
    obtain ⟨t, rfl, t2⟩ := p3 rfl
    obtain ⟨s, T, tot, g1, g2, g3, g4, g5, g6⟩ := j_chain h sr t2
    rw [if_neg (by decide), if_neg (by decide), lk.v, bind_s, h.1.k33, g1, bd2_s, g2, bd2_s, g3]
    exact ⟨_, _, _, rfl, rfl, g5, g6⟩
theorem j_pivot2 (h : Bv σ S V π) (sr : Sr σ) (lk : Lk σ) (x : Int32) : ∃ r σ1 T, kX11_pivot σ 2 x = some (r, σ1) ∧ r_pivot S x = some (r, T) ∧ Sv σ σ1 ∧ Rk S T := by
  have cl := cn_le V
  unfold kX11_pivot kX11_pivot_15 r_pivot
  rw [lk.s, bind_s, h.1.n, bind_s, r_things_eq h.2.1.w h.2.2, bind_s, r_isIn_b, bind_s, bI_0']
  by_cases z : ∃ i, i < cn V ∧ x = nI i
  · have z2 := (in_nat cl).mpr z
    obtain ⟨i, hi, rfl⟩ := z
    obtain ⟨s, T, r, g1, g2, g3, g4⟩ := j_pivot h sr hi
    rw [if_neg (nI_pos (by omega)), if_pos (nI_lt hi (by omega)), lk.v, bind_s, h.1.k33, g1, bd2_s, if_neg (not_not_intro z2), g2]
    exact ⟨_, _, _, rfl, rfl, g3, g4⟩
  · have z2 := fun y => z ((in_nat (x := x) cl).mp y)
    rw [if_pos z2]
    rcases i_or x with q | ⟨t, t1, rfl⟩
    · rw [if_pos q]; exact ⟨_, _, _, rfl, rfl, Sv.rfl, Rk.rfl⟩
    · rw [if_neg (nI_pos t1), if_neg (nI_nlt (by by_cases y : t < cn V; exact absurd ⟨t, y, rfl⟩ z; omega) t1)]
      exact ⟨_, _, _, rfl, rfl, Sv.rfl, Rk.rfl⟩
theorem j_groups (h : Bv σ S V π) (sr : Sr σ) (lk : Lk σ) (x y : Int32) : ∃ r σ1 T, kX11_groups σ 2 x y = some (r, σ1) ∧ r_groups S x y = some (r, T) ∧ Sv σ σ1 ∧ Rk S T := by
  unfold kX11_groups r_groups
  rw [isFar_eq, bind_s, isFarN_eq, bind_s, bI_0', bI_0']
  by_cases z : 0 ≤ x ∧ x ≤ 99
  · rw [if_neg (not_not_intro z), if_neg (not_not_intro z)]
    obtain ⟨r, hr, rfl⟩ := far_nat z
    obtain ⟨s, g1, g2, g3, g4⟩ := c_join h sr hr
    obtain ⟨T, k1, k2, k3⟩ := r_layGroups_eq h hr
    have hT := (h.sv g2).rk k2
    obtain ⟨m1, m2⟩ := r_groups32 hT g4 k3
    unfold kX11_groups_25 r_groups_22
    rw [lk.v, bind_s, h.1.k33, g1, bd2_s, k1, bind_s]
    by_cases q : y = -1
    · subst q
      rw [if_pos rfl, if_pos rfl, if_pos rfl, m1]
      exact ⟨_, _, _, rfl, rfl, g2, k2⟩
    · obtain ⟨p, p1, p2, p3⟩ := h.h y
      rw [if_neg q, if_neg q, lk.s, bind_s, h.1.k3, p1, bind_s, p2, bind_s, bI_0', bI_0']
      cases p with
      | false => rw [if_pos (show ¬ (false = true) by decide), if_pos (show ¬ (false = true) by decide), if_neg q]; exact ⟨_, _, _, rfl, rfl, Sv.rfl, Rk.rfl⟩
      | true =>
        obtain ⟨t, rfl, t2⟩ := p3 rfl
        rw [if_neg (show ¬ ¬ (true = true) by decide), if_neg (show ¬ ¬ (true = true) by decide), if_neg q, (lk.sv g2).v, bind_s, hT.1.k33, c_size hT (sr.sv g2) g4 g3 t2.1, bind_s, m2 t t2]
        exact ⟨_, _, _, rfl, rfl, g2, k2⟩
  · rw [if_pos z, if_pos z]
    exact ⟨_, _, _, rfl, rfl, Sv.rfl, Rk.rfl⟩
end READ2
