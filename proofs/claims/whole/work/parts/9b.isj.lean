section ISJ
variable {σ : Hp} {S : MS} {V : Vt} {π : Nat → Nat} {g : Gh} {E : Nat} {L : List Nat}
/-- is: the class's answer is the reference's -/
theorem j_is (J : JC σ S E L V π g) (x : Int32) : ∃ r T, kX11_is σ 2 x = some r ∧ r_is S x = some (r, T) ∧ S2 S T := by
  obtain ⟨co, rt, hv, w, -⟩ := J
  have ts := co.ts
  have lk := co.2.2.2.2.2
  have st : gfr σ 21 1100 2 = some 3 := by rw [gfr_ok lk.1, lk.2.1]
  have tr : gfr σ 21 1103 2 = some 23 := by rw [gfr_ok lk.1, lk.2.2.2.2.1]
  have ks := co.1.ks
  have hd := co.1.1.2.2.2.1
  have rw0 := rt.1
  have r3 : rd S 0 3 = some (nI V.M) := by rw [show (3 : Int32) = nI 3 from rfl, rd_r0 (by omega)]; exact congrArg some rw0.1.1
  have r4 : rd S 0 4 = some (nI V.C) := by rw [show (4 : Int32) = nI 4 from rfl, rd_r0 (by omega)]; exact congrArg some rw0.1.2.1
  have r5 : rd S 0 5 = some (nI V.T.length) := by rw [show (5 : Int32) = nI 5 from rfl, rd_r0 (by omega)]; exact congrArg some rw0.1.2.2
  unfold kX11_is r_is
  by_cases z0 : x = 0
  · rw [if_pos z0, if_pos z0, st, bind_s, gfi_ok ks, bind_s, hd.1, r_things_eq rw0 hv, bind_s]; exact ⟨_, _, rfl, rfl, S2.rfl⟩
  rw [if_neg z0, if_neg z0]
  by_cases z1 : x = 1
  · rw [if_pos z1, if_pos z1, st, bind_s, ts.1.u, bind_s, r_pages_eq rt w, bind_s]; exact ⟨_, _, rfl, rfl, S2.rfl⟩
  rw [if_neg z1, if_neg z1]
  by_cases z2 : x = 2
  · rw [if_pos z2, if_pos z2, tr, bind_s, ts.2.1.k, c_countLeaves ts w, bind_s, r_leaves_eq rt w, bind_s]; exact ⟨_, _, rfl, rfl, S2.rfl⟩
  rw [if_neg z2, if_neg z2]
  by_cases z3 : x = 3
  · rw [if_pos z3, if_pos z3, tr, bind_s, ts.2.1.k, c_levels ts w, bind_s, r_levels rt w, bind_s]; exact ⟨_, _, rfl, rfl, S2.rfl⟩
  rw [if_neg z3, if_neg z3]
  by_cases z4 : x = 4
  · rw [if_pos z4, if_pos z4, st, bind_s, gfi_ok ks, bind_s, hd.2.2.1, r3, bind_s]; exact ⟨_, _, rfl, rfl, S2.rfl⟩
  rw [if_neg z4, if_neg z4]
  by_cases z5 : x = 5
  · rw [if_pos z5, if_pos z5, st, bind_s, gfi_ok ks, bind_s, hd.2.2.2, r4, bind_s]; exact ⟨_, _, rfl, rfl, S2.rfl⟩
  rw [if_neg z5, if_neg z5]
  by_cases z6 : x = 6
  · rw [if_pos z6, if_pos z6, st, bind_s, gfi_ok ks, bind_s, hd.2.1, r5, bind_s]; exact ⟨_, _, rfl, rfl, S2.rfl⟩
  rw [if_neg z6, if_neg z6]
  by_cases z7 : x = 7
  · rw [if_pos z7, if_pos z7, tr, bind_s, ts.2.1.k, c_countEntries ts w, bind_s, r_sumOf_eq rt w (Or.inl ⟨rfl, rfl⟩), bind_s]; exact ⟨_, _, rfl, rfl, S2.rfl⟩
  rw [if_neg z7, if_neg z7]
  by_cases z8 : x = 8
  · obtain ⟨T, s2, e⟩ := r_overlaps_eq rt hv w
    rw [if_pos z8, if_pos z8, tr, bind_s, ts.2.1.k, c_countOverlaps ts hv w, bind_s, e, bd2_s]; exact ⟨_, T, rfl, rfl, s2⟩
  rw [if_neg z8, if_neg z8]
  by_cases z9 : x = 9
  · rw [if_pos z9, if_pos z9, tr, bind_s, ts.2.1.k, c_sumReaches ts w, bind_s, r_sumOf_eq rt w (Or.inr ⟨rfl, rfl⟩), bind_s]; exact ⟨_, _, rfl, rfl, S2.rfl⟩
  rw [if_neg z9, if_neg z9]
  exact ⟨_, _, rfl, rfl, S2.rfl⟩
end ISJ
