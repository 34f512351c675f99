section SCAN
variable {σ : Hp} {S : MS} {V : Vt} {π : Nat → Nat}
theorem Bv.mr {σ1 : Hp} (h : Bv σ S V π) (m : Mr σ σ1) : Bv σ1 S V π := by
  refine ⟨?_, h.2⟩
  obtain ⟨c1, c2, c3, c4, c5⟩ := h.1
  refine ⟨by rw [m.1.1, m.1.2.1]; exact c1, ⟨?_, ?_, ?_, ?_⟩, fun t ht => ?_, fun a b ha hb => ?_, ?_⟩
  · rw [m.2.2 _ _ (by decide)]; exact c2.1
  · rw [m.2.2 _ _ (by decide)]; exact c2.2.1
  · rw [m.2.2 _ _ (by decide)]; exact c2.2.2.1
  · rw [m.2.2 _ _ (by decide)]; exact c2.2.2.2
  · rw [m.2.1 4 (by decide)]; exact c3 t ht
  · rw [m.2.1 20 (by decide)]; exact c4 a b ha hb
  · rw [m.1.2.2.1]; exact c5
theorem Lk.mr {σ1 : Hp} (h : Lk σ) (m : Mr σ σ1) : Lk σ1 := by
  have e : ∀ i, σ1.fr i 2 = σ.fr i 2 := fun i => m.2.2 i 2 (by decide)
  unfold Lk
  rw [m.1.1, e, e, e, e, e, e, e, e, e, e]
  exact h
theorem j_scan (h : Bv σ S V π) (lk : Lk σ) {r q : Nat} (mo : Mo σ r q) (m6 : σ.fi 706 3 = nI V.M) (x y : Int32) : ∃ v σ1 T, kX11_scan σ 2 x y = some (v, σ1) ∧ r_scan S x y = some (v, T) ∧ Mr σ σ1 ∧ (∃ r' q', Mo σ1 r' q') ∧ S2 S T := by
  have k14 := mo.1.1
  have e40 : (40 : Int32) = nI 40 := rfl
  unfold kX11_scan r_scan
  rw [lk.m, bind_s, ckd_ok k14]
  rcases w_or x with e | ⟨w, hw, rfl⟩
  · rw [c_lnone e, bind_s, if_pos rfl, r_isWord_none e, bind_s, if_pos rfl]
    exact ⟨_, _, _, rfl, rfl, Mr.rfl, ⟨r, q, mo⟩, S2.rfl⟩
  have l1 := isW_lt hw
  rw [c_lw hw, bind_s, if_neg (cl_ne hw), r_isWord_w hw, bind_s, if_neg (show ¬ (1 : Int32) = 0 by decide), isFar_eq, bind_s, isFarN_eq, bind_s, bI_0', bI_0']
  by_cases z : 0 ≤ y ∧ y ≤ 99
  · rw [if_neg (not_not_intro z), if_neg (not_not_intro z)]
    have := lp 40 (fun F i (a : Nat × Hp × MS) => (kX11_scan_26 F 2 (nI w) y (nI a.1) (nI i) a.2.1, r_scan_21 F (nI w) y (nI a.1) (nI i) a.2.2)) (fun _ a => Mr σ a.2.1 ∧ (∃ r' q', Mo a.2.1 r' q') ∧ S2 S a.2.2) (fun p => ∃ v σ1 T, p = (some (v, σ1), some (v, T)) ∧ Mr σ σ1 ∧ (∃ r' q', Mo σ1 r' q') ∧ S2 S T) (fun F a j => ?_) (fun F i a hi j => Or.inl ?_) 40 0 FU (0, σ, S) FU_gt rfl ⟨Mr.rfl, ⟨r, q, mo⟩, S2.rfl⟩
    · obtain ⟨v, s, T, g1, g2⟩ := this
      exact ⟨v, s, T, (Prod.mk.inj g1).1, (Prod.mk.inj g1).2, g2⟩
    · refine ⟨nI a.1, a.2.1, a.2.2, ?_, j⟩
      rw [kX11_scan_26.eq_2, r_scan_21.eq_2, if_pos (by decide), if_pos (by decide)]
    · obtain ⟨n, s, T⟩ := a
      obtain ⟨j1, ⟨r1, q1, j2⟩, j3⟩ := j
      have j1 : Mr σ s := j1
      have j2 : Mo s r1 q1 := j2
      have j3 : S2 S T := j3
      have hb : Bv s T V π := (h.mr j1).s2 j3
      have lb := lk.mr j1
      have i31 : i < 2 ^ 31 := by omega
      have m6' : s.fi 706 3 = nI V.M := by rw [j1.1.2.2.1]; exact m6
      show ∃ a' : Nat × Hp × MS, _ ∧ (kX11_scan_26 (F + 1) 2 (nI w) y (nI n) (nI i) s, r_scan_21 (F + 1) (nI w) y (nI n) (nI i) T) = (kX11_scan_26 F 2 (nI w) y (nI a'.1) (nI (i + 1)) a'.2.1, r_scan_21 F (nI w) y (nI a'.1) (nI (i + 1)) a'.2.2)
      rw [kX11_scan_26.eq_2, r_scan_21.eq_2, e40, if_neg (nI_ge hi (by omega)), if_neg (nI_ge hi (by omega))]
      simp only [lb.s, lb.m, bind_s, hb.1.k3, hb.c i31, hb.r i31, bI_0']
      unfold kX11_scan_77 r_scan_57 r_scan_58
      by_cases t2 : hs V i
      · have iw : isW (V.W i) := by
          rcases h.2.2.1 i t2.1 with a | a
          · exact absurd a t2.2
          · exact a
        have l2 := isW_lt iw
        obtain ⟨s', r', q', g1, g2, g3⟩ := kX2_between_eq (μ := V.M) j2 l1.2 l2.2 h.2.2.2.1
        obtain ⟨T', k1, k2⟩ := r_apartOf_eq (S := T) hw iw h.2.2.2.1 hb.2.1.w.1.1
        rw [if_neg (not_not_intro t2), if_neg (not_not_intro t2), gfi_ok hb.1.1.2.1, bind_s, m6', gfr_ok hb.1.1.2.1, bind_s, hb.1.2.1.2.2.1, ald_ok hb.1.1.2.2.2.1 (by rw [hb.1.1.2.2.2.2.1]; exact t2.1) (by omega), bind_s, hb.1.2.2.1 i t2.1, ckd_ok j2.1.1, g1, bd2_s, r_wordOf_eq hb.2.1.w t2.1, bind_s, k1, bd2_s, nI_1, nI_1]
        by_cases c : y < nI (apart V.M w (V.W i))
        · rw [if_pos c, if_pos c, Int32.add_zero]
          exact ⟨(n, s', T'), ⟨j1.trans g2, ⟨r', q', g3⟩, j3.trans k2⟩, rfl⟩
        · rw [if_neg c, if_neg c]
          exact ⟨(n + 1, s', T'), ⟨j1.trans g2, ⟨r', q', g3⟩, j3.trans k2⟩, rfl⟩
      · rw [if_pos t2, if_pos t2, nI_1, Int32.add_zero]
        exact ⟨(n, s, T), ⟨j1, ⟨r1, q1, j2⟩, j3⟩, rfl⟩
  · rw [if_pos z, if_pos z]
    exact ⟨_, _, _, rfl, rfl, Mr.rfl, ⟨r, q, mo⟩, S2.rfl⟩
end SCAN
