section NAMES
variable {σ σ' σ1 σ2 : Hp} {S S' S1 : MS} {n q t : Nat} {f : Nat → Int32}
/-- the token from q to t is name j -/
def isNm (f : Nat → Int32) (q t j : Nat) : Prop := t = q + sLen.getD j 0 ∧ ∀ k, 0 ≤ k → k < sLen.getD j 0 → f (q + k) = (sByt.getD j []).getD k 0
def offL : List Nat := [0, 4, 9, 14, 21, 29, 33, 37, 42, 47, 53, 57, 62]
theorem nm_t : ∀ j, j < 12 → offL.getD j 0 < 62 ∧ nmL.getD (offL.getD j 0) 0 = nI (sLen.getD j 0) ∧ offL.getD (j + 1) 0 = offL.getD j 0 + (sLen.getD j 0 + 1) ∧ 3 ≤ sLen.getD j 0 ∧ sLen.getD j 0 ≤ 7 ∧ ∀ i, i < sLen.getD j 0 → offL.getD j 0 + 1 + i < 62 ∧ nmL.getD (offL.getD j 0 + 1 + i) 0 = nI (ltn ((sByt.getD j []).getD i 0)) ∧ (sByt.getD j []).getD i 0 = nI (96 + ltn ((sByt.getD j []).getD i 0)) ∧ ltn ((sByt.getD j []).getD i 0) ≤ 26 := by decide +kernel
theorem nm_d : ∀ j, j < 8 → ∀ k, k < 12 → 8 ≤ k → sLen.getD j 0 ≠ sLen.getD k 0 ∨ ∃ i, i < sLen.getD j 0 ∧ (sByt.getD j []).getD i 0 ≠ (sByt.getD k []).getD i 0 := by decide +kernel
theorem isNm_d {j k : Nat} (hj : j < 8) (hk : k < 12) (h8 : 8 ≤ k) (a : isNm f q t j) (b : isNm f q t k) : False := by
  have : sLen.getD j 0 = sLen.getD k 0 := by have := a.1; have := b.1; omega
  rcases nm_d j hj k hk h8 with w | ⟨i, i1, i2⟩
  · exact w this
  · exact i2 ((a.2 i (by omega) i1).symm.trans (b.2 i (by omega) (by omega)))
theorem sln_ok {j : Nat} (h : j < 12) : sln j = some (nI (sLen.getD j 0)) := if_pos h
theorem sat_ok {j i : Nat} (h : j < 12) (hi : i < sLen.getD j 0) : sat j (nI i) = some ((sByt.getD j []).getD i 0) := by
  have := nm_t j h
  unfold sat
  rw [if_pos ⟨h, nI_in hi (by omega)⟩, nI_clamp (by omega)]
theorem c_reads20 (h : Kr f n σ) (e8 : σ.fi 8 53 = nI q) {j : Nat} (hj : j < 12) (hn : q + sLen.getD j 0 ≤ n) : ∀ (m F i : Nat), m < F → i + m = sLen.getD j 0 → ((∀ k, i ≤ k → k < sLen.getD j 0 → f (q + k) = (sByt.getD j []).getD k 0) ∧ kX0_reads_20 σ F 53 j (nI i) = some 1) ∨ (¬ (∀ k, i ≤ k → k < sLen.getD j 0 → f (q + k) = (sByt.getD j []).getD k 0) ∧ kX0_reads_20 σ F 53 j (nI i) = some 0)
  | m, 0, _, h, _ => absurd h (Nat.not_lt_zero m)
  | 0, F + 1, i, _, hi => by
    have l7 := (nm_t j hj).2.2.2.2.1
    refine Or.inl ⟨fun k k1 k2 => by omega, ?_⟩
    unfold kX0_reads_20
    rw [sln_ok hj, bind_s, if_pos (nI_le (by omega) (by omega))]; rfl
  | m + 1, F + 1, i, hF, hi => by
    have l7 := (nm_t j hj).2.2.2.2.1
    have n3 := h.2.1
    unfold kX0_reads_20
    rw [sln_ok hj, bind_s, if_neg (nI_ge (by omega) (by omega)), gfr_ok h.1.1, bind_s, h.1.2.2.2, gfi_ok h.1.1, bind_s, e8, nI_add, ald_ok h.1.2.1 (by rw [h.1.2.2.1]; omega) (by omega), bind_s, h.2.2.2 (q + i) (by omega), sat_ok hj (by omega), bind_s]
    by_cases z : f (q + i) = (sByt.getD j []).getD i 0
    · rw [if_pos z, nI_1]
      rcases c_reads20 h e8 hj hn m F (i + 1) (by omega) (by omega) with ⟨a, b⟩ | ⟨a, b⟩
      · refine Or.inl ⟨fun k k1 k2 => ?_, b⟩
        by_cases w : k = i
        · rw [w]; exact z
        · exact a k (by omega) k2
      · exact Or.inr ⟨fun w => a (fun k k1 k2 => w k (by omega) k2), b⟩
    · rw [if_neg z]
      exact Or.inr ⟨fun w => z (w i (Nat.le_refl _) (by omega)), rfl⟩
theorem c_reads (h : Kr f n σ) (e8 : σ.fi 8 53 = nI q) (e9 : σ.fi 9 53 = nI t) (qt : q ≤ t) (tn : t ≤ n) {j : Nat} (hj : j < 12) : (isNm f q t j ∧ kX0_reads σ 53 j = some 1) ∨ (¬ isNm f q t j ∧ kX0_reads σ 53 j = some 0) := by
  have l7 := (nm_t j hj).2.2.2.2.1
  have n3 := h.2.1
  unfold kX0_reads
  rw [gfi_ok h.1.1, bind_s, e9, gfi_ok h.1.1, bind_s, e8, sln_ok hj, bind_s, pk_sub qt]
  by_cases z : t = q + sLen.getD j 0
  · rw [if_pos (by rw [z, Nat.add_sub_cancel_left])]
    rcases c_reads20 (f := f) h e8 hj (by omega) (sLen.getD j 0) FU 0 (FU_gt (by omega)) (by omega) with ⟨a, b⟩ | ⟨a, b⟩
    · exact Or.inl ⟨⟨z, a⟩, b⟩
    · exact Or.inr ⟨fun w => a w.2, b⟩
  · rw [if_neg (by rw [nI_eq (by omega) (by omega)]; omega)]
    exact Or.inr ⟨fun w => z w.1, rfl⟩
theorem r_wat22 (h : Rsh f n S) (e7 : S.2 47 = nI q) {j : Nat} (hj : j < 12) (hn : q + sLen.getD j 0 ≤ n) (hl : ∀ i, q ≤ i → i < q + sLen.getD j 0 → isLt (f i) = true) : ∀ (m F i : Nat), m < F → i + m = sLen.getD j 0 → ((∀ k, i ≤ k → k < sLen.getD j 0 → f (q + k) = (sByt.getD j []).getD k 0) ∧ r_isWordAt_22 S F (nI (offL.getD j 0)) (nI i) = some 1) ∨ (¬ (∀ k, i ≤ k → k < sLen.getD j 0 → f (q + k) = (sByt.getD j []).getD k 0) ∧ r_isWordAt_22 S F (nI (offL.getD j 0)) (nI i) = some 0)
  | m, 0, _, h, _ => absurd h (Nat.not_lt_zero m)
  | 0, F + 1, i, _, hi => by
    obtain ⟨o1, o2, o3, o4, o5, o6⟩ := nm_t j hj
    refine Or.inl ⟨fun k k1 k2 => by omega, ?_⟩
    unfold r_isWordAt_22
    rw [rd_ok (show offL.getD j 0 < m_len 27 by rw [show m_len 27 = 62 from rfl]; omega) (by omega), bind_s, h.2.2.2 _ o1, o2, if_pos (nI_le (by omega) (by omega))]; rfl
  | m + 1, F + 1, i, hF, hi => by
    obtain ⟨o1, o2, o3, o4, o5, o6⟩ := nm_t j hj
    have n3 := h.1
    obtain ⟨p1, p2, p3, p4⟩ := o6 i (by omega)
    obtain ⟨l1, l2, l3⟩ := ltn_or (hl (q + i) (by omega) (by omega))
    have s : (f (q + i) - 97) + 1 = nI (ltn (f (q + i))) := by
      conv => lhs; rw [l3]
      exact wstep_d l1
    unfold r_isWordAt_22
    rw [rd_ok (show offL.getD j 0 < m_len 27 by rw [show m_len 27 = 62 from rfl]; omega) (by omega), bind_s, h.2.2.2 _ o1, o2, if_neg (nI_ge (by omega) (by omega)), e7, nI_add, r_byteAt_eq h (by omega), bind_s, if_pos (by omega), s, nI_1, nI_add, rd_ok (show offL.getD j 0 + 1 + i < m_len 27 by rw [show m_len 27 = 62 from rfl]; omega) (by omega), bind_s, h.2.2.2 _ p1, p2]
    by_cases z : f (q + i) = (sByt.getD j []).getD i 0
    · rw [if_pos (by rw [z]), nI_1]
      rcases r_wat22 h e7 hj hn hl m F (i + 1) (by omega) (by omega) with ⟨a, b⟩ | ⟨a, b⟩
      · refine Or.inl ⟨fun k k1 k2 => ?_, b⟩
        by_cases w : k = i
        · rw [w]; exact z
        · exact a k (by omega) k2
      · exact Or.inr ⟨fun w => a (fun k k1 k2 => w k (by omega) k2), b⟩
    · rw [if_neg (by
        rw [nI_eq (by omega) (by omega)]
        intro w
        exact z (l3.trans ((congrArg (fun y => nI (96 + y)) w).trans p3.symm)))]
      exact Or.inr ⟨fun w => z (w i (Nat.le_refl _) (by omega)), rfl⟩
theorem r_wat (h : Rsh f n S) (e7 : S.2 47 = nI q) (e6 : S.2 46 = nI t) (qt : q ≤ t) (tn : t ≤ n) (hl : ∀ i, q ≤ i → i < t → isLt (f i) = true) {j : Nat} (hj : j < 12) : (isNm f q t j ∧ r_isWordAt S (nI (offL.getD j 0)) = some 1) ∨ (¬ isNm f q t j ∧ r_isWordAt S (nI (offL.getD j 0)) = some 0) := by
  obtain ⟨o1, o2, o3, o4, o5, o6⟩ := nm_t j hj
  have n3 := h.1
  unfold r_isWordAt
  rw [rd_ok (show offL.getD j 0 < m_len 27 by rw [show m_len 27 = 62 from rfl]; omega) (by omega), bind_s, h.2.2.2 _ o1, o2, e6, e7, pk_sub qt]
  by_cases z : t = q + sLen.getD j 0
  · rw [if_pos (by rw [z, Nat.add_sub_cancel_left])]
    rcases r_wat22 (f := f) h e7 hj (by omega) (fun i i1 i2 => hl i i1 (by omega)) (sLen.getD j 0) FU 0 (FU_gt (by omega)) (by omega) with ⟨a, b⟩ | ⟨a, b⟩
    · exact Or.inl ⟨⟨z, a⟩, b⟩
    · exact Or.inr ⟨fun w => a w.2, b⟩
  · rw [if_neg (by rw [nI_eq (by omega) (by omega)]; omega)]
    exact Or.inr ⟨fun w => z w.1, rfl⟩
/-- v is the first name from j on, before e, that stands from q to t; or -1 -/
def Fsn (f : Nat → Int32) (q t j e : Nat) (v : Int32) : Prop := (∃ k, j ≤ k ∧ k < e ∧ isNm f q t k ∧ v = nI k ∧ ∀ i, j ≤ i → i < k → ¬ isNm f q t i) ∨ (v = -1 ∧ ∀ i, j ≤ i → i < e → ¬ isNm f q t i)
theorem r_known31 (h : Rsh f n S) (e7 : S.2 47 = nI q) (e6 : S.2 46 = nI t) (qt : q ≤ t) (tn : t ≤ n) (hl : ∀ i, q ≤ i → i < t → isLt (f i) = true) : ∀ (m F j : Nat), m < F → j + m = 12 → ∃ v, r_readKnown_31 F (nI (offL.getD j 0)) (nI j) S = some (v, S) ∧ Fsn f q t j 12 v
  | m, 0, _, h, _ => absurd h (Nat.not_lt_zero m)
  | 0, F + 1, j, _, hj => by
    unfold r_readKnown_31
    rw [if_pos (show (12 : Int32) ≤ nI j from nI_le (a := 12) (by omega) (by omega))]
    exact ⟨-1, rfl, Or.inr ⟨rfl, fun i i1 i2 => by omega⟩⟩
  | m + 1, F + 1, j, hF, hj => by
    obtain ⟨o1, o2, o3, o4, o5, o6⟩ := nm_t j (by omega)
    unfold r_readKnown_31
    rw [if_neg (show ¬ (12 : Int32) ≤ nI j from nI_ge (b := 12) (by omega) (by omega))]
    rcases r_wat h e7 e6 qt tn hl (show j < 12 by omega) with ⟨a, b⟩ | ⟨a, b⟩
    · rw [b, bind_s, if_neg (show ¬ (1 : Int32) = 0 by decide)]
      exact ⟨_, rfl, Or.inl ⟨j, Nat.le_refl _, by omega, a, rfl, fun i i1 i2 => by omega⟩⟩
    · rw [b, bind_s, if_pos rfl, rd_ok (show offL.getD j 0 < m_len 27 by rw [show m_len 27 = 62 from rfl]; omega) (by omega), bind_s, h.2.2.2 _ o1, o2, nI_1, nI_1, nI_add, ← o3]
      obtain ⟨v, v1, v2⟩ := r_known31 h e7 e6 qt tn hl m F (j + 1) (by omega) (by omega)
      refine ⟨v, v1, ?_⟩
      rcases v2 with ⟨k, k1, k2, k3, k4, k5⟩ | ⟨k1, k2⟩
      · refine Or.inl ⟨k, by omega, k2, k3, k4, fun i i1 i2 => ?_⟩
        by_cases w : i = j
        · rw [w]; exact a
        · exact k5 i (by omega) i2
      · refine Or.inr ⟨k1, fun i i1 i2 => ?_⟩
        by_cases w : i = j
        · rw [w]; exact a
        · exact k2 i (by omega) i2
theorem r_known0 : ∀ (m F p : Nat) (S : MS), m < F → p + m = n → Rsh f n S → S.2 46 = nI p → ∃ S', r_readKnown_0 F S = r_readKnown_31 FU 0 0 S' ∧ S'.1 = S.1 ∧ S'.2 46 = nI (rn f n isLt m p) ∧ ∀ k, k ≠ 46 → S'.2 k = S.2 k
  | m, 0, _, _, h, _, _, _ => absurd h (Nat.not_lt_zero m)
  | m, F + 1, p, S, hF, hp, h, e => by
    have n3 := h.1
    unfold r_readKnown_0
    by_cases z : p < n ∧ isLt (f p) = true
    · obtain ⟨m, rfl⟩ : ∃ k, m = k + 1 := ⟨m - 1, by omega⟩
      simp only [e, r_byteAt_eq h (show p ≤ 300 by omega), bind_s, r_isLetter_eq, bI_lt1 z, nI_1]
      rw [if_neg (show ¬ (1 : Int32) = 0 by decide)]
      obtain ⟨S', k1, k2, k3, k4⟩ := r_known0 m F (p + 1) (pf S 46 (nI (p + 1))) (by omega) (by omega) (h.pf (by omega)) pf_s
      exact ⟨S', k1, by rw [k2, pf_1], by rw [k3, rn_s z], fun k hk => by rw [k4 k hk, pf_n hk]⟩
    · simp only [e, r_byteAt_eq h (show p ≤ 300 by omega), bind_s, r_isLetter_eq, bI_lt0 z, if_true]
      exact ⟨S, rfl, rfl, by rw [e, rn_z z], fun k hk => rfl⟩
/-- the reference reads a name, from q on -/
theorem r_readKnown_eq (h : Rsh f n S) (qn : q ≤ n) (e6 : S.2 46 = nI q) (e7 : S.2 47 = nI q) (ht : t = rn f n isLt (n - q) q) : ∃ v S', r_readKnown S = some (v, S') ∧ S'.1 = S.1 ∧ S'.2 46 = nI t ∧ (∀ k, k ≠ 46 → S'.2 k = S.2 k) ∧ Fsn f q t 0 12 v := by
  have n3 := h.1
  have tl := rn_le (n := n) (f := f) (P := isLt) (n - q) q (by omega)
  rw [← ht] at tl
  have hl : ∀ i, q ≤ i → i < t → isLt (f i) = true := fun i h1 h2 => rn_in (n := n) (n - q) q i (by omega) h1 (by rw [← ht]; exact h2)
  have fin : ∀ S' : MS, S'.1 = S.1 → S'.2 46 = nI t → (∀ k, k ≠ 46 → S'.2 k = S.2 k) → ∃ v S'', r_readKnown_31 FU 0 0 S' = some (v, S'') ∧ S''.1 = S.1 ∧ S''.2 46 = nI t ∧ (∀ k, k ≠ 46 → S''.2 k = S.2 k) ∧ Fsn f q t 0 12 v := fun S' a b c => by
    have h' : Rsh f n S' := ⟨h.1, by rw [c 44 (by omega)]; exact h.2.1, by rw [a]; exact h.2.2.1, by rw [a]; exact h.2.2.2⟩
    obtain ⟨v, v1, v2⟩ := r_known31 h' (by rw [c 47 (by omega)]; exact e7) b tl.1 tl.2 hl 12 FU 0 (FU_gt (by omega)) (by omega)
    exact ⟨v, S', v1, a, b, c, v2⟩
  unfold r_readKnown
  by_cases z : q < n ∧ isLt (f q) = true
  · simp only [e6, r_byteAt_eq h (show q ≤ 300 by omega), bind_s, r_isLetter_eq, bI_lt1 z, nI_1]
    rw [if_neg (show ¬ (1 : Int32) = 0 by decide)]
    obtain ⟨S', k1, k2, k3, k4⟩ := r_known0 (f := f) (n - (q + 1)) FU (q + 1) (pf S 46 (nI (q + 1))) (FU_gt (by omega)) (by omega) (h.pf (by omega)) pf_s
    rw [k1]
    exact fin S' (by rw [k2, pf_1]) (by rw [k3, ht, rn_step z.1 z.2]) (fun k hk => by rw [k4 k hk, pf_n hk])
  · simp only [e6, r_byteAt_eq h (show q ≤ 300 by omega), bind_s, r_isLetter_eq, bI_lt0 z, if_true]
    exact fin S rfl (by rw [e6, ht, rn_z z]) (fun k hk => rfl)
end NAMES
