section B
variable {σ : Hp} {S : MS} {V : Vt} {π : Nat → Nat}
theorem j_pair_in (h : Bv σ S V π) {w : Int32} {kc : Nat → Int32 → Int32 → Int32 → Int32 → Option Int32} {kr : Int32 → Int32 → Int32 → Int32 → MS → Option (Int32 × MS)} {a : Nat} (ha : a < 40) (x2 x3 : Int32) : ∃ x2' x3' S', kX8_extremePair_20 σ kc FU 33 w x2 x3 (nI a) (nI (a + 1)) = kc 33 w x2' x3' (nI (a + 1)) ∧ r_pair_31 kr FU w x2 x3 (nI a) (nI (a + 1)) S = kr w x2' x3' (nI (a + 1)) S' ∧ S2 S S' := by
  have e40 : (40 : Int32) = nI 40 := rfl
  have := lp 40 (fun F i (q : Int32 × Int32 × MS) => (kX8_extremePair_20 σ kc F 33 w q.1 q.2.1 (nI a) (nI i), r_pair_31 kr F w q.1 q.2.1 (nI a) (nI i) q.2.2)) (fun i q => a < i ∧ S2 S q.2.2) (fun r => ∃ x2' x3' S', r = (kc 33 w x2' x3' (nI (a + 1)), kr w x2' x3' (nI (a + 1)) S') ∧ S2 S S') (fun F q j => ?_) (fun F i q hi j => Or.inl ?_) (40 - (a + 1)) (a + 1) FU (x2, x3, S) FU_gt (by omega) ⟨by omega, S2.rfl⟩
  · obtain ⟨y2, y3, S', g1, g2⟩ := this
    exact ⟨y2, y3, S', (Prod.mk.inj g1).1, (Prod.mk.inj g1).2, g2⟩
  · refine ⟨q.1, q.2.1, q.2.2, ?_, j.2⟩
    rw [kX8_extremePair_20.eq_2, r_pair_31.eq_2, if_pos (by decide), if_pos (by decide), nI_1]
  · obtain ⟨x2, x3, T⟩ := q
    obtain ⟨ja, j⟩ := j
    have ja : a < i := ja
    have j : S2 S T := j
    have hb := h.s2 j
    show ∃ q', _ ∧ (kX8_extremePair_20 σ kc (F + 1) 33 w x2 x3 (nI a) (nI i), r_pair_31 kr (F + 1) w x2 x3 (nI a) (nI i) T) = _
    rw [kX8_extremePair_20.eq_2, r_pair_31.eq_2, e40, if_neg (nI_ge hi (by decide)), if_neg (nI_ge hi (by decide))]
    simp only [h.1.k33, h.1.f, h.1.k19, bind_s, h.1.pr h.2.2 ja (show i < 2 ^ 31 by omega), hb.r (show i < 2 ^ 31 by omega), hb.r (show a < 2 ^ 31 by omega), ite_bI]
    unfold kX8_extremePair_78 kX8_extremePair_90 r_pair_96 r_pair_108
    by_cases q1 : hs V a
    · by_cases q2 : hs V i
      · obtain ⟨T1, g1, g2⟩ := hb.fa q1 q2
        have q3 : hs V a ∧ hs V i := ⟨q1, q2⟩
        rw [if_pos q3, if_pos q1, if_pos q2, h.1.of q1 q2, bind_s, g1, bd2_s, e40, pk_mul, pk_mul, nI_add, nI_add, nI_1, Nat.mul_comm a 40]
        by_cases c1 : x2 = -1
        · rw [if_pos c1, if_pos c1]
          exact ⟨(_, _, T1), ⟨by omega, j.trans g2⟩, rfl⟩
        · rw [if_neg c1, if_neg c1]
          by_cases c2 : w = 0
          · rw [if_pos c2, if_pos c2]
            by_cases c3 : nI (far V a i) < x3
            · rw [if_neg (Int32.not_le.mpr c3), if_pos c3]
              exact ⟨(_, _, T1), ⟨by omega, j.trans g2⟩, rfl⟩
            · rw [if_pos (Int32.not_lt.mp c3), if_neg c3]
              exact ⟨(_, _, T1), ⟨by omega, j.trans g2⟩, rfl⟩
          · rw [if_neg c2, if_neg c2]
            by_cases c3 : x3 < nI (far V a i)
            · rw [if_neg (Int32.not_le.mpr c3), if_pos c3]
              exact ⟨(_, _, T1), ⟨by omega, j.trans g2⟩, rfl⟩
            · rw [if_pos (Int32.not_lt.mp c3), if_neg c3]
              exact ⟨(_, _, T1), ⟨by omega, j.trans g2⟩, rfl⟩
      · rw [if_neg (fun y : hs V a ∧ hs V i => q2 y.2), if_pos q1, if_neg q2, nI_1]
        exact ⟨(_, _, T), ⟨by omega, j⟩, rfl⟩
    · rw [if_neg (fun y : hs V a ∧ hs V i => q1 y.1), if_neg q1, nI_1]
      exact ⟨(_, _, T), ⟨by omega, j⟩, rfl⟩
theorem j_pair (h : Bv σ S V π) (w : Int32) : ∃ v S', kX8_extremePair σ 33 w = some v ∧ r_pair_18 FU w (-1) 0 0 S = some (v, S') ∧ S2 S S' := by
  have e40 : (40 : Int32) = nI 40 := rfl
  unfold kX8_extremePair
  have := lp 40 (fun F i (q : Int32 × Int32 × MS) => (kX8_extremePair_7 σ F 33 w q.1 q.2.1 (nI i), r_pair_18 F w q.1 q.2.1 (nI i) q.2.2)) (fun i q => S2 S q.2.2) (fun r => ∃ v S', r = (some v, some (v, S')) ∧ S2 S S') (fun F q j => ?_) (fun F i q hi j => Or.inl ?_) 40 0 FU (-1, 0, S) FU_gt rfl S2.rfl
  · obtain ⟨v, S', g1, g2⟩ := this
    exact ⟨v, S', (Prod.mk.inj g1).1, (Prod.mk.inj g1).2, g2⟩
  · refine ⟨q.1, q.2.2, ?_, j⟩
    rw [kX8_extremePair_7.eq_2, r_pair_18.eq_2, if_pos (by decide), if_pos (by decide)]
  · obtain ⟨x2, x3, T⟩ := q
    have j : S2 S T := j
    show ∃ q', _ ∧ (kX8_extremePair_7 σ (F + 1) 33 w x2 x3 (nI i), r_pair_18 (F + 1) w x2 x3 (nI i) T) = _
    rw [kX8_extremePair_7.eq_2, r_pair_18.eq_2, e40, if_neg (nI_ge hi (by decide)), if_neg (nI_ge hi (by decide)), nI_1]
    obtain ⟨y2, y3, T1, g1, g2, g3⟩ := j_pair_in (h.s2 j) (w := w) (kc := kX8_extremePair_7 σ F) (kr := r_pair_18 F) hi x2 x3
    rw [g1, g2]
    exact ⟨(y2, y3, T1), j.trans g3, rfl⟩
theorem j_spaced_in (h : Bv σ S V π) {l u : Int32} {kc : Nat → Int32 → Int32 → Int32 → Int32 → Option Int32} {kr : Int32 → Int32 → Int32 → Int32 → Int32 → MS → Option (Int32 × MS)} {a : Nat} (ha : a < 40) (n : Nat) (hn : n ≤ 40 * a) : ∃ n' S', n' ≤ 40 * (a + 1) ∧ kX8_countPairs_18 σ kc FU 33 l u (nI n) (nI a) (nI (a + 1)) = kc 33 l u (nI n') (nI (a + 1)) ∧ r_spacedNow_19 kr FU l u (-1) (nI n) (nI a) (nI (a + 1)) S = kr l u (-1) (nI n') (nI (a + 1)) S' ∧ S2 S S' := by
  have e40 : (40 : Int32) = nI 40 := rfl
  have := lp 40 (fun F i (q : Nat × MS) => (kX8_countPairs_18 σ kc F 33 l u (nI q.1) (nI a) (nI i), r_spacedNow_19 kr F l u (-1) (nI q.1) (nI a) (nI i) q.2)) (fun i q => a < i ∧ q.1 + 40 ≤ 40 * (a + 1) + i ∧ S2 S q.2) (fun r => ∃ n' S', r = (kc 33 l u (nI n') (nI (a + 1)), kr l u (-1) (nI n') (nI (a + 1)) S') ∧ n' ≤ 40 * (a + 1) ∧ S2 S S') (fun F q j => ?_) (fun F i q hi j => Or.inl ?_) (40 - (a + 1)) (a + 1) FU (n, S) FU_gt (by omega) ⟨by omega, by show n + 40 ≤ _; omega, S2.rfl⟩
  · obtain ⟨n', S', g1, g2, g3⟩ := this
    exact ⟨n', S', g2, (Prod.mk.inj g1).1, (Prod.mk.inj g1).2, g3⟩
  · refine ⟨q.1, q.2, ?_, by omega, j.2.2⟩
    rw [kX8_countPairs_18.eq_2, r_spacedNow_19.eq_2, if_pos (by decide), if_pos (by decide), nI_1]
  · obtain ⟨n, T⟩ := q
    obtain ⟨ja, jn, j⟩ := j
    have ja : a < i := ja
    have jn : n + 40 ≤ 40 * (a + 1) + i := jn
    have j : S2 S T := j
    have hb := h.s2 j
    show ∃ q', _ ∧ (kX8_countPairs_18 σ kc (F + 1) 33 l u (nI n) (nI a) (nI i), r_spacedNow_19 kr (F + 1) l u (-1) (nI n) (nI a) (nI i) T) = _
    rw [kX8_countPairs_18.eq_2, r_spacedNow_19.eq_2, e40, if_neg (nI_ge hi (by decide)), if_neg (nI_ge hi (by decide))]
    simp only [h.1.k33, h.1.f, h.1.k19, bind_s, h.1.pr h.2.2 ja (show i < 2 ^ 31 by omega), hb.r (show i < 2 ^ 31 by omega), hb.r (show a < 2 ^ 31 by omega), ite_bI, r_isIn_b]
    unfold kX8_countPairs_69 r_spacedNow_81
    by_cases q1 : hs V a
    · by_cases q2 : hs V i
      · obtain ⟨T1, g1, g2⟩ := hb.fa q1 q2
        have q3 : hs V a ∧ hs V i := ⟨q1, q2⟩
        rw [if_pos q3, if_pos q1, if_pos q2, h.1.of q1 q2, bind_s, bind_s, g1, bd2_s, nI_1, nI_1, if_neg (show ¬ nI n = -1 from fun y => (nI_m1 (by omega)).mp y)]
        by_cases c1 : nI (far V a i) < l
        · rw [if_pos c1, if_neg (fun y : l ≤ nI (far V a i) ∧ nI (far V a i) ≤ u => Int32.not_le.mpr c1 y.1)]
          exact ⟨(n, T1), ⟨by omega, by show n + 40 ≤ _; omega, j.trans g2⟩, rfl⟩
        · rw [if_neg c1]
          by_cases c2 : u < nI (far V a i)
          · rw [if_pos c2, if_neg (fun y : l ≤ nI (far V a i) ∧ nI (far V a i) ≤ u => Int32.not_le.mpr c2 y.2)]
            exact ⟨(n, T1), ⟨by omega, by show n + 40 ≤ _; omega, j.trans g2⟩, rfl⟩
          · have c3 : l ≤ nI (far V a i) ∧ nI (far V a i) ≤ u := ⟨Int32.not_lt.mp c1, Int32.not_lt.mp c2⟩
            rw [if_neg c2, if_pos c3]
            exact ⟨(n + 1, T1), ⟨by omega, by show n + 1 + 40 ≤ _; omega, j.trans g2⟩, rfl⟩
      · rw [if_neg (fun y : hs V a ∧ hs V i => q2 y.2), if_pos q1, if_neg q2, nI_1]
        exact ⟨(n, T), ⟨by omega, by show n + 40 ≤ _; omega, j⟩, rfl⟩
    · rw [if_neg (fun y : hs V a ∧ hs V i => q1 y.1), if_neg q1, nI_1]
      exact ⟨(n, T), ⟨by omega, by show n + 40 ≤ _; omega, j⟩, rfl⟩
theorem j_spaced (h : Bv σ S V π) (l u : Int32) : ∃ v S', kX8_countPairs σ 33 l u = some v ∧ r_spacedNow S l u (-1) = some (v, S') ∧ S2 S S' := by
  have e40 : (40 : Int32) = nI 40 := rfl
  unfold kX8_countPairs r_spacedNow
  have := lp 40 (fun F i (q : Nat × MS) => (kX8_countPairs_5 σ F 33 l u (nI q.1) (nI i), r_spacedNow_6 F l u (-1) (nI q.1) (nI i) q.2)) (fun i q => q.1 ≤ 40 * i ∧ S2 S q.2) (fun r => ∃ v S', r = (some v, some (v, S')) ∧ S2 S S') (fun F q j => ?_) (fun F i q hi j => Or.inl ?_) 40 0 FU (0, S) FU_gt rfl ⟨Nat.le_refl 0, S2.rfl⟩
  · obtain ⟨v, S', g1, g2⟩ := this
    exact ⟨v, S', (Prod.mk.inj g1).1, (Prod.mk.inj g1).2, g2⟩
  · refine ⟨nI q.1, q.2, ?_, j.2⟩
    rw [kX8_countPairs_5.eq_2, r_spacedNow_6.eq_2, if_pos (by decide), if_pos (by decide), if_pos rfl]
  · obtain ⟨n, T⟩ := q
    obtain ⟨jn, j⟩ := j
    have j : S2 S T := j
    show ∃ q', _ ∧ (kX8_countPairs_5 σ (F + 1) 33 l u (nI n) (nI i), r_spacedNow_6 (F + 1) l u (-1) (nI n) (nI i) T) = _
    rw [kX8_countPairs_5.eq_2, r_spacedNow_6.eq_2, e40, if_neg (nI_ge hi (by decide)), if_neg (nI_ge hi (by decide)), nI_1]
    obtain ⟨n', T1, g0, g1, g2, g3⟩ := j_spaced_in (h.s2 j) (l := l) (u := u) (kc := kX8_countPairs_5 σ F) (kr := r_spacedNow_6 F) hi n jn
    rw [g1, g2]
    exact ⟨(n', T1), ⟨g0, j.trans g3⟩, rfl⟩
theorem j_couple_in (h : Bv σ S V π) {u x : Int32} (hx : x < 0 → x < -1) {kc : Nat → Int32 → Int32 → Int32 → Int32 → Option Int32} {kr : Int32 → Int32 → Int32 → Int32 → Int32 → MS → Option (Int32 × MS)} {a : Nat} (ha : a < 40) (n : Nat) (hn : n ≤ 40 * a) : (∃ n' S', n' ≤ 40 * (a + 1) ∧ kX8_coupleAt_18 σ kc FU 33 u x (nI n) (nI a) (nI (a + 1)) = kc 33 u x (nI n') (nI (a + 1)) ∧ r_spacedNow_19 kr FU 0 u x (nI n) (nI a) (nI (a + 1)) S = kr 0 u x (nI n') (nI (a + 1)) S' ∧ S2 S S') ∨ (∃ v S', kX8_coupleAt_18 σ kc FU 33 u x (nI n) (nI a) (nI (a + 1)) = some v ∧ r_spacedNow_19 kr FU 0 u x (nI n) (nI a) (nI (a + 1)) S = some (v, S') ∧ S2 S S') := by
  have e40 : (40 : Int32) = nI 40 := rfl
  have := lp 40 (fun F i (q : Nat × MS) => (kX8_coupleAt_18 σ kc F 33 u x (nI q.1) (nI a) (nI i), r_spacedNow_19 kr F 0 u x (nI q.1) (nI a) (nI i) q.2)) (fun i q => a < i ∧ q.1 + 40 ≤ 40 * (a + 1) + i ∧ S2 S q.2) (fun r => (∃ n' S', r = (kc 33 u x (nI n') (nI (a + 1)), kr 0 u x (nI n') (nI (a + 1)) S') ∧ n' ≤ 40 * (a + 1) ∧ S2 S S') ∨ (∃ v S', r = (some v, some (v, S')) ∧ S2 S S')) (fun F q j => ?_) (fun F i q hi j => ?_) (40 - (a + 1)) (a + 1) FU (n, S) FU_gt (by omega) ⟨by omega, by show n + 40 ≤ _; omega, S2.rfl⟩
  · rcases this with ⟨n', S', g1, g2, g3⟩ | ⟨v, S', g1, g2⟩
    · exact Or.inl ⟨n', S', g2, (Prod.mk.inj g1).1, (Prod.mk.inj g1).2, g3⟩
    · exact Or.inr ⟨v, S', (Prod.mk.inj g1).1, (Prod.mk.inj g1).2, g2⟩
  · refine Or.inl ⟨q.1, q.2, ?_, by omega, j.2.2⟩
    rw [kX8_coupleAt_18.eq_2, r_spacedNow_19.eq_2, if_pos (by decide), if_pos (by decide), nI_1]
  · obtain ⟨n, T⟩ := q
    obtain ⟨ja, jn, j⟩ := j
    have ja : a < i := ja
    have jn : n + 40 ≤ 40 * (a + 1) + i := jn
    have j : S2 S T := j
    have hb := h.s2 j
    have e0 : (0 : Int32) = nI 0 := rfl
    show (∃ q', _ ∧ (kX8_coupleAt_18 σ kc (F + 1) 33 u x (nI n) (nI a) (nI i), r_spacedNow_19 kr (F + 1) 0 u x (nI n) (nI a) (nI i) T) = _) ∨ ((∃ n' S', (kX8_coupleAt_18 σ kc (F + 1) 33 u x (nI n) (nI a) (nI i), r_spacedNow_19 kr (F + 1) 0 u x (nI n) (nI a) (nI i) T) = _ ∧ _ ∧ _) ∨ (∃ v S', (kX8_coupleAt_18 σ kc (F + 1) 33 u x (nI n) (nI a) (nI i), r_spacedNow_19 kr (F + 1) 0 u x (nI n) (nI a) (nI i) T) = _ ∧ _))
    rw [kX8_coupleAt_18.eq_2, r_spacedNow_19.eq_2, e40, if_neg (nI_ge hi (by decide)), if_neg (nI_ge hi (by decide))]
    simp only [h.1.k33, h.1.f, h.1.k19, bind_s, h.1.pr h.2.2 ja (show i < 2 ^ 31 by omega), hb.r (show i < 2 ^ 31 by omega), hb.r (show a < 2 ^ 31 by omega), ite_bI, r_isIn_b]
    unfold kX8_coupleAt_71 r_spacedNow_81
    have bf := far_le h.2.2 a i
    by_cases q1 : hs V a
    · by_cases q2 : hs V i
      · obtain ⟨T1, g1, g2⟩ := hb.fa q1 q2
        have q3 : hs V a ∧ hs V i := ⟨q1, q2⟩
        rw [if_pos q3, if_pos q1, if_pos q2, h.1.of q1 q2, bind_s, g1, bd2_s, nI_1, nI_1]
        by_cases c2 : nI (far V a i) ≤ u
        · have c3 : 0 ≤ nI (far V a i) ∧ nI (far V a i) ≤ u := ⟨nI_pos' (by omega), c2⟩
          rw [if_pos c2, if_pos c3]
          by_cases c4 : nI n = x
          · rw [if_pos c4, if_pos c4, pk_mul, pk_mul, nI_add, nI_add, Nat.mul_comm a 40]
            exact Or.inr (Or.inr ⟨_, T1, rfl, j.trans g2⟩)
          · rw [if_neg c4, if_neg c4]
            exact Or.inl ⟨(n + 1, T1), ⟨by omega, by show n + 1 + 40 ≤ _; omega, j.trans g2⟩, rfl⟩
        · rw [if_neg c2, if_neg (fun y : 0 ≤ nI (far V a i) ∧ nI (far V a i) ≤ u => c2 y.2)]
          exact Or.inl ⟨(n, T1), ⟨by omega, by show n + 40 ≤ _; omega, j.trans g2⟩, rfl⟩
      · rw [if_neg (fun y : hs V a ∧ hs V i => q2 y.2), if_pos q1, if_neg q2, nI_1]
        exact Or.inl ⟨(n, T), ⟨by omega, by show n + 40 ≤ _; omega, j⟩, rfl⟩
    · rw [if_neg (fun y : hs V a ∧ hs V i => q1 y.1), if_neg q1, nI_1]
      exact Or.inl ⟨(n, T), ⟨by omega, by show n + 40 ≤ _; omega, j⟩, rfl⟩
theorem j_couple (h : Bv σ S V π) (u x : Int32) (hx : ¬ x = -1) : ∃ v S', kX8_coupleAt σ 33 u x = some v ∧ r_spacedNow S 0 u x = some (v, S') ∧ S2 S S' := by
  have e40 : (40 : Int32) = nI 40 := rfl
  unfold kX8_coupleAt r_spacedNow
  have := lp 40 (fun F i (q : Nat × MS) => (kX8_coupleAt_5 σ F 33 u x (nI q.1) (nI i), r_spacedNow_6 F 0 u x (nI q.1) (nI i) q.2)) (fun i q => q.1 ≤ 40 * i ∧ S2 S q.2) (fun r => ∃ v S', r = (some v, some (v, S')) ∧ S2 S S') (fun F q j => ?_) (fun F i q hi j => ?_) 40 0 FU (0, S) FU_gt rfl ⟨Nat.le_refl 0, S2.rfl⟩
  · obtain ⟨v, S', g1, g2⟩ := this
    exact ⟨v, S', (Prod.mk.inj g1).1, (Prod.mk.inj g1).2, g2⟩
  · refine ⟨-1, q.2, ?_, j.2⟩
    rw [kX8_coupleAt_5.eq_2, r_spacedNow_6.eq_2, if_pos (by decide), if_pos (by decide), if_neg hx]
  · obtain ⟨n, T⟩ := q
    obtain ⟨jn, j⟩ := j
    have j : S2 S T := j
    show (∃ q', _ ∧ (kX8_coupleAt_5 σ (F + 1) 33 u x (nI n) (nI i), r_spacedNow_6 (F + 1) 0 u x (nI n) (nI i) T) = _) ∨ (∃ v S', (kX8_coupleAt_5 σ (F + 1) 33 u x (nI n) (nI i), r_spacedNow_6 (F + 1) 0 u x (nI n) (nI i) T) = _ ∧ _)
    rw [kX8_coupleAt_5.eq_2, r_spacedNow_6.eq_2, e40, if_neg (nI_ge hi (by decide)), if_neg (nI_ge hi (by decide)), nI_1]
    rcases j_couple_in (h.s2 j) (u := u) (x := x) (fun y => by
      rcases Int32.lt_or_le x (-1) with z | z
      · exact z
      · exact absurd (Int32.le_antisymm (by
          have h1 : x.toInt < 0 := by simpa using Int32.lt_iff_toInt_lt.mp y
          rw [Int32.le_iff_toInt_le]
          show x.toInt ≤ -1
          omega) z) hx) (kc := kX8_coupleAt_5 σ F) (kr := r_spacedNow_6 F) hi n jn with ⟨n', T1, g0, g1, g2, g3⟩ | ⟨v, T1, g1, g2, g3⟩
    · rw [g1, g2]
      exact Or.inl ⟨(n', T1), ⟨g0, j.trans g3⟩, rfl⟩
    · rw [g1, g2]
      exact Or.inr ⟨v, T1, rfl, j.trans g3⟩
theorem c_couple_neg (h : Bv σ S V π) (u x : Int32) (hx : x < 0) : kX8_coupleAt σ 33 u x = some (-1) := by
  have e40 : (40 : Int32) = nI 40 := rfl
  have inn : ∀ (kc : Nat → Int32 → Int32 → Int32 → Int32 → Option Int32) (a : Nat), a < 40 → ∀ n, n ≤ 40 * a → ∃ n', n' ≤ 40 * (a + 1) ∧ kX8_coupleAt_18 σ kc FU 33 u x (nI n) (nI a) (nI (a + 1)) = kc 33 u x (nI n') (nI (a + 1)) := by
    intro kc a ha n hn
    refine lp 40 (fun F i (q : Nat) => kX8_coupleAt_18 σ kc F 33 u x (nI q) (nI a) (nI i)) (fun i q => a < i ∧ q + 40 ≤ 40 * (a + 1) + i) (fun r => ∃ n', n' ≤ 40 * (a + 1) ∧ r = kc 33 u x (nI n') (nI (a + 1))) (fun F q j => ?_) (fun F i q hi j => Or.inl ?_) (40 - (a + 1)) (a + 1) FU n FU_gt (by omega) ⟨by omega, by omega⟩
    · refine ⟨q, by omega, ?_⟩
      rw [kX8_coupleAt_18.eq_2, if_pos (by decide), nI_1]
    · obtain ⟨ja, jn⟩ := j
      show ∃ q', _ ∧ kX8_coupleAt_18 σ kc (F + 1) 33 u x (nI q) (nI a) (nI i) = _
      rw [kX8_coupleAt_18.eq_2, e40, if_neg (nI_ge hi (by decide))]
      simp only [h.1.k33, h.1.f, h.1.k19, bind_s, h.1.pr h.2.2 ja (show i < 2 ^ 31 by omega), ite_bI]
      unfold kX8_coupleAt_71
      by_cases q3 : hs V a ∧ hs V i
      · have nq : ¬ nI q = x := fun y => by
          rw [← y] at hx
          exact nI_pos (by omega) hx
        rw [if_pos q3, h.1.of q3.1 q3.2, bind_s, if_neg nq, nI_1, nI_1]
        by_cases c2 : nI (far V a i) ≤ u
        · rw [if_pos c2]
          exact ⟨q + 1, ⟨by omega, by omega⟩, rfl⟩
        · rw [if_neg c2]
          exact ⟨q, ⟨by omega, by omega⟩, rfl⟩
      · rw [if_neg q3, nI_1]
        exact ⟨q, ⟨by omega, by omega⟩, rfl⟩
  unfold kX8_coupleAt
  refine lp 40 (fun F i (q : Nat) => kX8_coupleAt_5 σ F 33 u x (nI q) (nI i)) (fun i q => q ≤ 40 * i) (fun r => r = some (-1)) (fun F q j => ?_) (fun F i q hi j => Or.inl ?_) 40 0 FU 0 FU_gt rfl (by omega)
  · rw [kX8_coupleAt_5.eq_2, if_pos (by decide)]
  · show ∃ q', _ ∧ kX8_coupleAt_5 σ (F + 1) 33 u x (nI q) (nI i) = _
    rw [kX8_coupleAt_5.eq_2, e40, if_neg (nI_ge hi (by decide)), nI_1]
    obtain ⟨n', g1, g2⟩ := inn (kX8_coupleAt_5 σ F) i hi q j
    rw [g2]
    exact ⟨n', g1, rfl⟩
end B
