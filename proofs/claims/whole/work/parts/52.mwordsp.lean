theorem clamp_neg {x : Int32} (h : x < 0) : x.toNatClampNeg = 0 := by
  have h1 : x.toInt < 0 := by
    have := Int32.lt_iff_toInt_lt.mp h
    simpa using this
  show x.toInt.toNat = 0
  omega
theorem r_isIn_eq {S : MS} {x a b : Int32} : r_isIn S x a b = some (if a ≤ x ∧ x ≤ b then 1 else 0) := by
  unfold r_isIn
  by_cases h : x < a
  · rw [if_pos h, if_neg (fun q => Int32.not_le.mpr h q.1)]; rfl
  · rw [if_neg h]
    by_cases h2 : b < x
    · rw [if_pos h2, if_neg (fun q => Int32.not_le.mpr h2 q.2)]; rfl
    · rw [if_neg h2, if_pos ⟨Int32.not_lt.mp h, Int32.not_lt.mp h2⟩]; rfl
theorem r_lettersOf_16_eq {S : MS} : ∀ (m F w n : Nat), m < F → m ≤ 6 → w < 9 ^ m → w < 2 ^ 31 → r_lettersOf_16 S F (nI n) (nI w) = some (o2i ((lo m w).map (· + n)))
  | m, 0, w, n, h, _, _, _ => absurd h (Nat.not_lt_zero m)
  | 0, F + 1, w, n, _, _, hw, _ => by
    have : w = 0 := by omega
    subst this
    unfold r_lettersOf_16
    rw [if_pos (by decide)]
    simp [lo, o2i]
  | m + 1, F + 1, w, n, hF, hm, hw, h31 => by
    unfold r_lettersOf_16 lo
    by_cases h : w = 0
    · subst h
      rw [if_pos (by decide), if_pos rfl]
      simp [o2i]
    · rw [if_neg (nI_nle (by omega) h31), if_neg h]
      have e9 : (9 : Int32) = nI 9 := rfl
      rw [e9, pk_rem h31 (by decide) (by decide), pk_div h31 (by decide) (by decide)]
      by_cases h2 : w % 9 = 0
      · rw [h2, if_pos (by decide), if_pos rfl]
        rfl
      · rw [if_neg (nI_ne0 (by omega) (by omega)), if_neg h2, nI_1]
        have h9 : 9 ^ (m + 1) = 9 ^ m * 9 := rfl
        rw [r_lettersOf_16_eq m F (w / 9) (n + 1) (by omega) (by omega) (by omega) (by omega)]
        cases lo m (w / 9) with
        | none => rfl
        | some k => simp [o2i, Nat.add_comm, Nat.add_left_comm]
theorem r_lettersOf_eq {S : MS} {x : Int32} : r_lettersOf S x = some (o2i (letters x.toNatClampNeg)) := by
  unfold r_lettersOf
  rw [r_isIn_eq, bind_s]
  by_cases h : x < 0
  · have n1 : ¬ (1 ≤ x ∧ x ≤ 531440) := fun q => absurd (Int32.lt_of_lt_of_le (Int32.lt_of_lt_of_le h (by decide : (0 : Int32) ≤ 1)) q.1) (Int32.lt_irrefl)
    rw [clamp_neg h, if_neg n1]
    rfl
  · obtain ⟨w, hw, rfl⟩ := nI_of h
    rw [nI_clamp hw]
    have e1 : (1 : Int32) = nI 1 := rfl
    have e2 : (531440 : Int32) = nI 531440 := rfl
    by_cases q : 1 ≤ w ∧ w ≤ 531440
    · have n1 : 1 ≤ nI w ∧ nI w ≤ 531440 := ⟨by rw [e1]; exact nI_le q.1 hw, by rw [e2]; exact nI_le q.2 (by decide)⟩
      rw [if_pos n1, if_neg (by decide)]
      have := r_lettersOf_16_eq (S := S) 6 FU w 0 (by decide) (by omega) (by omega) hw
      rw [nI_0] at this
      rw [this]
      unfold letters
      rw [if_neg (by omega)]
      simp
    · have n1 : ¬ (1 ≤ nI w ∧ nI w ≤ 531440) := fun z => q ⟨by rw [e1] at z; exact (nI_leI (by decide) hw).mp z.1, by rw [e2] at z; exact (nI_leI hw (by decide)).mp z.2⟩
      rw [if_neg n1]
      unfold letters
      have n2 : w < 1 ∨ 531440 < w := by omega
      rw [if_pos rfl, if_pos n2]
      rfl
theorem r_lettersOf_w {S : MS} {w : Nat} (h : isW w) : r_lettersOf S (nI w) = some (nI (cl w)) := by
  have := isW_lt h
  rw [r_lettersOf_eq, nI_clamp (by omega), isW_cl h]
  rfl
theorem r_letterAt_19_eq {S : MS} : ∀ (m F i w : Nat), m < F → w < 2 ^ 31 → i + m < 2 ^ 31 → r_letterAt_19 S F (nI i) (nI w) (nI (i + m)) = some (nI (dv m w % 9))
  | m, 0, _, _, h, _, _ => absurd h (Nat.not_lt_zero m)
  | 0, F + 1, i, w, _, hw, hi => by
    unfold r_letterAt_19
    rw [if_pos (nI_le (by omega) (by omega))]
    have e9 : (9 : Int32) = nI 9 := rfl
    rw [e9, pk_rem hw (by decide) (by decide)]
    rfl
  | m + 1, F + 1, i, w, hF, hw, hi => by
    unfold r_letterAt_19
    have e9 : (9 : Int32) = nI 9 := rfl
    rw [if_neg (nI_ge (by omega) (by omega)), e9, pk_div hw (by decide) (by decide), nI_dec (by omega)]
    have e : i + (m + 1) - 1 = i + m := by omega
    rw [e, r_letterAt_19_eq m F i (w / 9) (by omega) (by omega) (by omega)]
    rfl
theorem r_letterAt_w {S : MS} {w i : Nat} (h : isW w) (hi : i < 2 ^ 31) : r_letterAt S (nI w) (nI i) = some (nI (lt w i)) := by
  unfold r_letterAt
  have h1 := isW_lt h
  have h6 := cl_le w
  rw [r_lettersOf_w h, bind_s]
  unfold lt
  by_cases q : i < cl w
  · rw [if_pos (nI_lt q (by omega)), if_pos q]
    have e1 : (1 : Int32) = nI 1 := rfl
    rw [e1, pk_sub (by omega)]
    have e : i + (cl w - 1 - i) = cl w - 1 := by omega
    have := r_letterAt_19_eq (S := S) (cl w - 1 - i) FU i w (FU_gt) (by omega) (by omega)
    rw [e] at this
    exact this
  · rw [if_neg (nI_nlt (by omega) hi), if_neg q]
    rfl
theorem r_lesser_eq {S : MS} {x y : Nat} (hx : x < 2 ^ 31) (hy : y < 2 ^ 31) : r_lesser S (nI x) (nI y) = some (nI (min x y)) := by
  unfold r_lesser
  by_cases h : y ≤ x
  · rw [if_pos (nI_le h hx), Nat.min_eq_right h]
  · rw [if_neg (nI_ge (by omega) hy), Nat.min_eq_left (by omega)]
/-- rows 2 and 3 alone are written -/
def S2 (S S' : MS) : Prop := ∃ x y, S' = sc S x y
theorem S2.rfl {S : MS} : S2 S S := ⟨_, _, (sc_self S).symm⟩
theorem S2.trans {S S' S'' : MS} (h : S2 S S') (h2 : S2 S' S'') : S2 S S'' := by
  obtain ⟨x, y, rfl⟩ := h
  obtain ⟨u, v, rfl⟩ := h2
  exact ⟨u, v, sc_sc⟩
theorem S2.r {S S' : MS} (h : S2 S S') {j : Nat} (h2 : j ≠ 2) (h3 : j ≠ 3) : S'.1 j = S.1 j := by
  obtain ⟨x, y, rfl⟩ := h
  exact sc_r h2 h3
theorem S2.f {S S' : MS} (h : S2 S S') : S'.2 = S.2 := by
  obtain ⟨x, y, rfl⟩ := h
  rfl
theorem S2_w {S : MS} {j i : Nat} {v : Int32} (h : j = 2 ∨ j = 3) : S2 S (up2 S.1 j i v, S.2) := by
  refine ⟨fun k => if j = 2 ∧ k = i then v else S.1 2 k, fun k => if j = 3 ∧ k = i then v else S.1 3 k, ?_⟩
  unfold sc up2
  congr 1
  funext a b
  by_cases h2 : a = 2
  · subst h2
    simp [eq_comm]
  · by_cases h3 : a = 3
    · subst h3
      simp [eq_comm]
    · rcases h with rfl | rfl <;> simp [h2, h3]
theorem up2_s {A : Nat → Nat → Int32} {j i : Nat} {v : Int32} : up2 A j i v j i = v := if_pos ⟨rfl, rfl⟩
theorem up2_i {A : Nat → Nat → Int32} {j i k : Nat} {v : Int32} (h : k ≠ i) : up2 A j i v j k = A j k := if_neg (fun q => h q.2)
theorem up2_j {A : Nat → Nat → Int32} {j i a k : Nat} {v : Int32} (h : a ≠ j) : up2 A j i v a k = A a k := if_neg (fun q => h q.1)
theorem r_editsOf_86_eq {k39 : Int32 → Int32 → Int32 → Int32 → Int32 → MS → Option (Int32 × MS)} {w v i M : Nat} (hw : isW w) (hv : isW v) (hi : i < cl w) (hM : M = cl v) : ∀ (m F j : Nat) (S : MS), m < F → j + m = M →
    (∀ k, k ≤ M → S.1 3 k = nI (ed (lt w) (lt v) i k)) → (∀ k, k ≤ j → S.1 2 k = nI (ed (lt w) (lt v) (i + 1) k)) →
    ∃ S', r_editsOf_86 k39 F (nI w) (nI v) (nI (cl w)) (nI M) (nI (i + 1)) (nI (j + 1)) S = k39 (nI w) (nI v) (nI (cl w)) (nI M) (nI (i + 2)) S' ∧ S2 S S' ∧ (∀ k, k ≤ M → S'.1 2 k = nI (ed (lt w) (lt v) (i + 1) k))
  | m, 0, _, _, h, _, _, _ => absurd h (Nat.not_lt_zero m)
  | 0, F + 1, j, S, _, hj, h3, h2 => by
    have a1 := cl_le v
    unfold r_editsOf_86
    rw [if_pos (nI_lt (by omega) (by omega)), nI_1]
    exact ⟨S, rfl, S2.rfl, fun k hk => h2 k (by omega)⟩
  | m + 1, F + 1, j, S, hF, hj, h3, h2 => by
    have a1 := cl_le v
    have a2 := cl_le w
    have e1 : (1 : Int32) = nI 1 := rfl
    have b1 := ed_le (lt w) (lt v) i j
    have b2 := ed_le (lt w) (lt v) i (j + 1)
    have b3 := ed_le (lt w) (lt v) (i + 1) j
    unfold r_editsOf_86
    rw [if_neg (nI_nlt (by omega) (by omega)), e1, pk_sub (by omega), pk_sub (by omega)]
    have e2 : j + 1 - 1 = j := by omega
    have e3 : i + 1 - 1 = i := by omega
    rw [e2, e3, rd_ok (show j < m_len 3 by rw [len3]; omega) (by omega), bind_s, r_letterAt_w hw (by omega), bind_s, r_letterAt_w hv (by omega), bind_s, h3 j (by omega)]
    have core : ∀ c : Nat, c ≤ 1 → c = (if lt w i = lt v j then 0 else 1) → ∃ S', r_editsOf_126 k39 (r_editsOf_86 k39 F) (nI w) (nI v) (nI (cl w)) (nI M) (nI (i + 1)) (nI (j + 1)) (nI (ed (lt w) (lt v) i j)) (nI c) S = k39 (nI w) (nI v) (nI (cl w)) (nI M) (nI (i + 2)) S' ∧ S2 S S' ∧ (∀ k, k ≤ M → S'.1 2 k = nI (ed (lt w) (lt v) (i + 1) k)) := by
      intro c hc he
      unfold r_editsOf_126
      rw [e1, pk_sub (by omega), e2, rd_ok (show j + 1 < m_len 3 by rw [len3]; omega) (by omega), bind_s, rd_ok (show j < m_len 2 by rw [len2]; omega) (by omega), bind_s, h3 (j + 1) (by omega), h2 j (by omega), r_lesser_eq (by omega) (by omega), bind_s, nI_add, nI_add, r_lesser_eq (by omega) (by omega), bind_s, wr_ok (show j + 1 < m_len 2 by rw [len2]; omega) (by omega), bind_s, nI_add]
      have hval : min (ed (lt w) (lt v) i j + c) (min (ed (lt w) (lt v) i (j + 1)) (ed (lt w) (lt v) (i + 1) j) + 1) = ed (lt w) (lt v) (i + 1) (j + 1) := by
        rw [ed_ss, he]
      rw [hval]
      obtain ⟨S', g1, g2, g3⟩ := r_editsOf_86_eq (k39 := k39) hw hv hi hM m F (j + 1) (up2 S.1 2 (j + 1) (nI (ed (lt w) (lt v) (i + 1) (j + 1))), S.2) (by omega) (by omega) (fun k hk => by
        exact h3 k hk) (fun k hk => by
        show up2 S.1 2 (j + 1) _ 2 k = _
        by_cases q : k = j + 1
        · rw [q, up2_s]
        · rw [up2_i q]; exact h2 k (by omega))
      exact ⟨S', g1, (S2_w (Or.inl rfl)).trans g2, g3⟩
    by_cases q : lt w i = lt v j
    · rw [if_pos (by rw [q])]
      exact core 0 (by omega) (by rw [if_pos q])
    · have c1 := lt_le w i
      have c2 := lt_le v j
      rw [if_neg (fun z => q ((nI_eq (by omega) (by omega)).mp z))]
      exact core 1 (by omega) (by rw [if_neg q])
theorem r_editsOf_48_eq {k39 : Int32 → Int32 → Int32 → Int32 → Int32 → MS → Option (Int32 × MS)} {w v i M : Nat} (hw : isW w) (hv : isW v) (hi : i < cl w) (hM : M = cl v) : ∀ (m F j : Nat) (S : MS), m < F → j + m = M + 1 →
    (∀ k, k ≤ M → S.1 2 k = nI (ed (lt w) (lt v) i k)) → (∀ k, k < j → S.1 3 k = nI (ed (lt w) (lt v) i k)) →
    ∃ S', r_editsOf_48 k39 F (nI w) (nI v) (nI (cl w)) (nI M) (nI (i + 1)) (nI j) S = k39 (nI w) (nI v) (nI (cl w)) (nI M) (nI (i + 2)) S' ∧ S2 S S' ∧ (∀ k, k ≤ M → S'.1 2 k = nI (ed (lt w) (lt v) (i + 1) k))
  | m, 0, _, _, h, _, _, _ => absurd h (Nat.not_lt_zero m)
  | 0, F + 1, j, S, _, hj, h2, h3 => by
    have a1 := cl_le v
    have a2 := cl_le w
    unfold r_editsOf_48
    have e0 : (0 : Int32) = nI 0 := rfl
    have e1 : (1 : Int32) = nI (0 + 1) := rfl
    rw [if_pos (nI_lt (by omega) (by omega)), e0, wr_ok (show 0 < m_len 2 by rw [len2]; omega) (by omega), bind_s, e1]
    obtain ⟨S', g1, g2, g3⟩ := r_editsOf_86_eq (k39 := k39) hw hv hi hM M FU 0 (up2 S.1 2 0 (nI (i + 1)), S.2) FU_gt (by omega) (fun k hk => by
        exact h3 k (by omega)) (fun k hk => by
        have : k = 0 := by omega
        subst this
        show up2 S.1 2 0 _ 2 0 = _
        rw [up2_s]; rfl)
    exact ⟨S', g1, (S2_w (Or.inl rfl)).trans g2, g3⟩
  | m + 1, F + 1, j, S, hF, hj, h2, h3 => by
    have a1 := cl_le v
    unfold r_editsOf_48
    rw [if_neg (nI_nlt (by omega) (by omega)), rd_ok (show j < m_len 2 by rw [len2]; omega) (by omega), bind_s, wr_ok (show j < m_len 3 by rw [len3]; omega) (by omega), bind_s, nI_1]
    obtain ⟨S', g1, g2, g3⟩ := r_editsOf_48_eq (k39 := k39) hw hv hi hM m F (j + 1) (up2 S.1 3 j (S.1 2 j), S.2) (by omega) (by omega) (fun k hk => by
        exact h2 k hk) (fun k hk => by
        show up2 S.1 3 j _ 3 k = _
        by_cases q : k = j
        · rw [q, up2_s]; exact h2 j (by omega)
        · rw [up2_i q]; exact h3 k (by omega))
    exact ⟨S', g1, (S2_w (Or.inr rfl)).trans g2, g3⟩
theorem r_editsOf_39_eq {w v M : Nat} (hw : isW w) (hv : isW v) (hM : M = cl v) : ∀ (m F i : Nat) (S : MS), m < F → i + m = cl w →
    (∀ k, k ≤ M → S.1 2 k = nI (ed (lt w) (lt v) i k)) →
    ∃ S', r_editsOf_39 F (nI w) (nI v) (nI (cl w)) (nI M) (nI (i + 1)) S = some (nI (ed (lt w) (lt v) (cl w) M), S') ∧ S2 S S'
  | m, 0, _, _, h, _, _ => absurd h (Nat.not_lt_zero m)
  | 0, F + 1, i, S, _, hj, h2 => by
    have a1 := cl_le v
    have a2 := cl_le w
    unfold r_editsOf_39
    rw [if_pos (nI_lt (by omega) (by omega)), rd_ok (show M < m_len 2 by rw [len2]; omega) (by omega), bind_s, h2 M (by omega)]
    have : i = cl w := by omega
    rw [this]
    exact ⟨S, rfl, S2.rfl⟩
  | m + 1, F + 1, i, S, hF, hj, h2 => by
    have a1 := cl_le v
    have a2 := cl_le w
    unfold r_editsOf_39
    have e0 : (0 : Int32) = nI 0 := rfl
    rw [if_neg (nI_nlt (by omega) (by omega)), e0]
    obtain ⟨S', g1, g2, g3⟩ := r_editsOf_48_eq (k39 := r_editsOf_39 F) hw hv (show i < cl w by omega) hM (M + 1) FU 0 S FU_gt (by omega) h2 (fun k hk => by omega)
    obtain ⟨S'', g4, g5⟩ := r_editsOf_39_eq hw hv hM m F (i + 1) S' (by omega) (by omega) g3
    exact ⟨S'', g1.trans g4, g2.trans g5⟩
theorem r_editsOf_14_eq {w v M : Nat} (hw : isW w) (hv : isW v) (hM : M = cl v) : ∀ (m F j : Nat) (S : MS), m < F → j + m = M + 1 →
    (∀ k, k < j → S.1 2 k = nI k) →
    ∃ S', r_editsOf_14 F (nI w) (nI v) (nI (cl w)) (nI M) (nI j) S = some (nI (ed (lt w) (lt v) (cl w) M), S') ∧ S2 S S'
  | m, 0, _, _, h, _, _ => absurd h (Nat.not_lt_zero m)
  | 0, F + 1, j, S, _, hj, h2 => by
    have a1 := cl_le v
    have a2 := cl_le w
    unfold r_editsOf_14
    have e1 : (1 : Int32) = nI (0 + 1) := rfl
    rw [if_pos (nI_lt (by omega) (by omega)), e1]
    exact r_editsOf_39_eq hw hv hM (cl w) FU 0 S FU_gt (by omega) (fun k hk => by rw [h2 k (by omega)]; rfl)
  | m + 1, F + 1, j, S, hF, hj, h2 => by
    have a1 := cl_le v
    unfold r_editsOf_14
    rw [if_neg (nI_nlt (by omega) (by omega)), wr_ok (show j < m_len 2 by rw [len2]; omega) (by omega), bind_s, nI_1]
    obtain ⟨S', g1, g2⟩ := r_editsOf_14_eq hw hv hM m F (j + 1) (up2 S.1 2 j (nI j), S.2) (by omega) (by omega) (fun k hk => by
        show up2 S.1 2 j _ 2 k = _
        by_cases q : k = j
        · rw [q, up2_s]
        · rw [up2_i q]; exact h2 k (by omega))
    exact ⟨S', g1, (S2_w (Or.inl rfl)).trans g2⟩
theorem r_editsOf_eq {S : MS} {w v : Nat} (hw : isW w) (hv : isW v) : ∃ S', r_editsOf S (nI w) (nI v) = some (nI (ed (lt w) (lt v) (cl w) (cl v)), S') ∧ S2 S S' := by
  unfold r_editsOf
  rw [r_lettersOf_w hw, bind_s, r_lettersOf_w hv, bind_s]
  have e0 : (0 : Int32) = nI 0 := rfl
  have a1 := cl_le v
  rw [e0]
  exact r_editsOf_14_eq hw hv rfl (cl v + 1) FU 0 S FU_gt (by omega) (fun k hk => by omega)
theorem r_headOf_9_eq {S : MS} {w v : Nat} (hw : isW w) (hv : isW v) (hne : w ≠ v) : ∀ (m F i : Nat), m < F → i + m = 6 → (∀ k, k < i → lt w k = lt v k) → r_headOf_9 S F (nI w) (nI v) (nI i) = some (nI (match unl (lt w) (lt v) m i with | some n => 7 - n | none => 0))
  | m, 0, _, h, _, _ => absurd h (Nat.not_lt_zero m)
  | 0, F + 1, i, _, hi, he => absurd (lt_eq hw hv (fun k hk => he k (by omega))) hne
  | m + 1, F + 1, i, hF, hi, he => by
    have c1 := lt_le w i
    have c2 := lt_le v i
    have e7 : (7 : Int32) = nI 7 := rfl
    unfold r_headOf_9 unl
    rw [r_letterAt_w hw (by omega), bind_s, bind_s, r_letterAt_w hv (by omega), bind_s]
    by_cases q : lt w i = lt v i
    · by_cases q0 : lt w i = 0
      · exfalso
        refine hne (lt_eq hw hv (fun k hk => ?_))
        by_cases q1 : k < i
        · exact he k q1
        · have z1 : ¬ i < cl w := fun z => isW_nz hw z q0
          have z2 : ¬ i < cl v := fun z => isW_nz hv z (q ▸ q0)
          unfold lt
          rw [if_neg (by omega), if_neg (by omega)]
      · rw [if_neg (nI_ne0 (by omega) (by omega)), if_pos (by rw [q]), if_pos q, nI_1]
        exact r_headOf_9_eq hw hv hne m F (i + 1) (by omega) (by omega) (fun k hk => by
          by_cases q2 : k = i
          · rw [q2]; exact q
          · exact he k (by omega))
    · rw [if_neg q]
      have out : r_headOf_36 S (nI i) = some (nI (7 - i)) := by
        unfold r_headOf_36
        rw [e7, pk_sub (by omega)]
      by_cases q0 : lt w i = 0
      · rw [q0, if_pos (by decide)]
        exact out
      · rw [if_neg (nI_ne0 (by omega) (by omega)), if_neg (fun z => q ((nI_eq (by omega) (by omega)).mp z))]
        exact out
theorem r_headOf_eq {S : MS} {w v : Nat} (hw : isW w) (hv : isW v) : r_headOf S (nI w) (nI v) = some (nI (apart 3 w v)) := by
  have h1 := isW_lt hw
  have h2 := isW_lt hv
  unfold r_headOf apart
  by_cases q : w = v
  · subst q
    rw [if_pos rfl, if_pos rfl]
    rfl
  · rw [if_neg (fun z => q ((nI_eq (by omega) (by omega)).mp z)), if_neg q, if_neg (by decide), if_neg (by decide), if_neg (by decide)]
    have e0 : (0 : Int32) = nI 0 := rfl
    rw [e0]
    exact r_headOf_9_eq hw hv q 6 FU 0 (by decide) rfl (fun k hk => by omega)
theorem r_size_sub {S : MS} {a b : Nat} (ha : a < 2 ^ 30) (hb : b < 2 ^ 30) : r_size S (nI a - nI b) = some (nI ((a - b) + (b - a))) := by
  unfold r_size
  by_cases h : b ≤ a
  · rw [pk_sub h, if_pos (nI_pos' (by omega))]
    congr 2
    omega
  · have h1 := pk_sneg hb (show a < b by omega)
    rw [if_neg (Int32.not_le.mpr h1)]
    have : -(nI a - nI b) = nI b - nI a := Int32.neg_sub
    rw [this, pk_sub (by omega)]
    congr 2
    omega
theorem r_apartOf_48_eq {w v μ : Nat} (hw : isW w) (hv : isW v) (hμ : μ = 1 ∨ μ = 2) : ∀ (m F i a : Nat) (S : MS), m < F → i + m = 6 → S.1 0 3 = nI μ → r_apartOf_48 F (nI w) (nI v) (nI a) (nI i) S = some (nI (a + sm (if μ = 1 then pln (lt w) (lt v) else sbn (lt w) (lt v)) m i), S)
  | m, 0, _, _, _, h, _, _ => absurd h (Nat.not_lt_zero m)
  | 0, F + 1, i, a, S, _, hi, _ => by
    unfold r_apartOf_48
    have : i = 6 := by omega
    subst this
    rw [if_pos (by decide)]
    rfl
  | m + 1, F + 1, i, a, S, hF, hi, hμ0 => by
    have c1 := lt_le w i
    have c2 := lt_le v i
    have e6 : (6 : Int32) = nI 6 := rfl
    have e3 : (3 : Int32) = nI 3 := rfl
    have e2 : (2 : Int32) = nI 2 := rfl
    unfold r_apartOf_48 sm
    rw [e6, if_neg (nI_ge (by omega) (by omega)), r_letterAt_w hw (by omega), bind_s, r_letterAt_w hv (by omega), bind_s, r_size_sub (by omega) (by omega), bind_s, e3, rd_ok (show 3 < m_len 0 by rw [len0]; omega) (by omega), bind_s, hμ0, e2]
    unfold r_apartOf_99
    rcases hμ with rfl | rfl
    · rw [if_neg (by decide), if_pos rfl]
      unfold pln
      by_cases q : lt w i = lt v i
      · rw [if_pos q, q, Nat.sub_self, if_pos (by decide)]
        have e0 : (0 : Int32) = nI 0 := rfl
        rw [e0, nI_add, nI_1, r_apartOf_48_eq hw hv (Or.inl rfl) m F (i + 1) (a + 0) S (by omega) (by omega) hμ0, if_pos rfl]
        unfold pln
        congr 3
        omega
      · rw [if_neg q, if_neg (nI_ne0 (by omega) (by omega))]
        have e1 : (1 : Int32) = nI 1 := rfl
        rw [e1, nI_add, nI_add, r_apartOf_48_eq hw hv (Or.inl rfl) m F (i + 1) (a + 1) S (by omega) (by omega) hμ0, if_pos rfl]
        unfold pln
        congr 3
        omega
    · rw [if_pos rfl, if_neg (by decide), nI_add, nI_1, r_apartOf_48_eq hw hv (Or.inr rfl) m F (i + 1) _ S (by omega) (by omega) hμ0, if_neg (by decide)]
      unfold sbn
      congr 3
      omega
theorem r_apartOf_eq {S : MS} {w v μ : Nat} (hw : isW w) (hv : isW v) (hμ : μ < 4) (hS : S.1 0 3 = nI μ) : ∃ S', r_apartOf S (nI w) (nI v) = some (nI (apart μ w v), S') ∧ S2 S S' := by
  unfold r_apartOf
  have e3 : (3 : Int32) = nI 3 := rfl
  have e0 : (0 : Int32) = nI 0 := rfl
  have sum : μ = 1 ∨ μ = 2 → r_apartOf_43 (nI w) (nI v) S = some (nI (apart μ w v), S) := by
    intro h
    unfold r_apartOf_43
    rw [e0, r_apartOf_48_eq hw hv h 6 FU 0 0 S (by decide) rfl hS]
    unfold apart
    by_cases q : w = v
    · subst q
      rw [if_pos rfl, sm_congr (g := fun _ => 0) 6 0 (fun j _ _ => by
        split
        · unfold pln; rw [if_pos rfl]
        · unfold sbn; omega)]
      rfl
    · rw [if_neg q]
      rcases h with rfl | rfl
      · simp
      · simp
  rw [e3, rd_ok (show 3 < m_len 0 by rw [len0]; omega) (by omega), bind_s, hS]
  have hcase : μ = 0 ∨ μ = 1 ∨ μ = 2 ∨ μ = 3 := by omega
  rcases hcase with rfl | rfl | rfl | rfl
  · rw [if_pos (by decide)]
    obtain ⟨S', h1, h2⟩ := r_editsOf_eq (S := S) hw hv
    rw [h1, bd2_s]
    refine ⟨S', ?_, h2⟩
    unfold apart
    by_cases q : w = v
    · subst q
      rw [if_pos rfl, ed_self]
    · rw [if_neg q, if_pos rfl]
  · rw [if_neg (by decide), bind_s, if_pos (by decide)]
    exact ⟨S, sum (Or.inl rfl), S2.rfl⟩
  · rw [if_neg (by decide), bind_s, if_neg (by decide), bind_s, if_pos (by decide)]
    exact ⟨S, sum (Or.inr rfl), S2.rfl⟩
  · rw [if_neg (by decide), bind_s, if_neg (by decide), bind_s, if_neg (by decide), r_headOf_eq hw hv, bind_s]
    exact ⟨S, rfl, S2.rfl⟩
