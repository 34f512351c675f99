section CNAMED
variable {σ σ' σ1 σ2 : Hp} {S S' S1 : MS} {n q t : Nat} {f : Nat → Int32}
theorem nm_up {j k : Nat} (h : ∀ i, j ≤ i → i < k → ¬ isNm f q t i) (a : ¬ isNm f q t k) : ∀ i, j ≤ i → i < k + 1 → ¬ isNm f q t i := fun i i1 i2 => by
  by_cases w : i = k
  · rw [w]; exact a
  · exact h i i1 (by omega)
theorem nm_no {j k : Nat} (h : t = q) (hk : k ≤ 12) : ∀ i, j ≤ i → i < k → ¬ isNm f q t i := fun i i1 i2 w => by
  have := (nm_t i (by omega)).2.2.2.1
  have := w.1
  omega
theorem c_cnamed (h : Kr f n σ) (e8 : σ.fi 8 53 = nI q) (e9 : σ.fi 9 53 = nI t) (qt : q ≤ t) (tn : t ≤ n) : ∃ v, kX0_commandNamed σ 53 = some v ∧ Fsn f q t 0 8 v := by
  have r := fun j (hj : j < 12) => c_reads h e8 e9 qt tn hj
  have one : ¬ (1 : Int32) = 0 := by decide
  have y0 : ∀ i, 0 ≤ i → i < 0 → ¬ isNm f q t i := fun i _ w => absurd w (Nat.not_lt_zero i)
  unfold kX0_commandNamed
  simp only [ckd_ok h.1.1]
  rcases r 0 (by omega) with ⟨a, b⟩ | ⟨a, b⟩
  · rw [b, bind_s, if_neg one]
    exact ⟨_, rfl, Or.inl ⟨0, by omega, by omega, a, rfl, y0⟩⟩
  have y1 := nm_up y0 a
  rw [b, bind_s, if_pos rfl]
  clear a b
  rcases r 1 (by omega) with ⟨a, b⟩ | ⟨a, b⟩
  · rw [b, bind_s, if_neg one]
    exact ⟨_, rfl, Or.inl ⟨1, by omega, by omega, a, rfl, y1⟩⟩
  have y2 := nm_up y1 a
  rw [b, bind_s, if_pos rfl]
  clear a b
  rcases r 2 (by omega) with ⟨a, b⟩ | ⟨a, b⟩
  · rw [b, bind_s, if_neg one]
    exact ⟨_, rfl, Or.inl ⟨2, by omega, by omega, a, rfl, y2⟩⟩
  have y3 := nm_up y2 a
  rw [b, bind_s, if_pos rfl]
  clear a b
  rcases r 3 (by omega) with ⟨a, b⟩ | ⟨a, b⟩
  · rw [b, bind_s, if_neg one]
    exact ⟨_, rfl, Or.inl ⟨3, by omega, by omega, a, rfl, y3⟩⟩
  have y4 := nm_up y3 a
  rw [b, bind_s, if_pos rfl]
  clear a b
  rcases r 4 (by omega) with ⟨a, b⟩ | ⟨a, b⟩
  · rw [b, bind_s, if_neg one]
    exact ⟨_, rfl, Or.inl ⟨4, by omega, by omega, a, rfl, y4⟩⟩
  have y5 := nm_up y4 a
  rw [b, bind_s, if_pos rfl]
  clear a b
  rcases r 5 (by omega) with ⟨a, b⟩ | ⟨a, b⟩
  · rw [b, bind_s, if_neg one]
    exact ⟨_, rfl, Or.inl ⟨5, by omega, by omega, a, rfl, y5⟩⟩
  have y6 := nm_up y5 a
  rw [b, bind_s, if_pos rfl]
  clear a b
  rcases r 6 (by omega) with ⟨a, b⟩ | ⟨a, b⟩
  · rw [b, bind_s, if_neg one]
    exact ⟨_, rfl, Or.inl ⟨6, by omega, by omega, a, rfl, y6⟩⟩
  have y7 := nm_up y6 a
  rw [b, bind_s, if_pos rfl]
  clear a b
  rcases r 7 (by omega) with ⟨a, b⟩ | ⟨a, b⟩
  · rw [b, bind_s, if_neg one]
    exact ⟨_, rfl, Or.inl ⟨7, by omega, by omega, a, rfl, y7⟩⟩
  have y8 := nm_up y7 a
  rw [b, bind_s, if_pos rfl]
  clear a b
  exact ⟨_, rfl, Or.inr ⟨rfl, y8⟩⟩
/-- the measure's number, from its name's -/
theorem c_mnamed (h : Kr f n σ) (e8 : σ.fi 8 53 = nI q) (e9 : σ.fi 9 53 = nI t) (qt : q ≤ t) (tn : t ≤ n) : ∃ v, kX0_measureNamed σ 53 = some v ∧ ((∃ k, 8 ≤ k ∧ k < 12 ∧ isNm f q t k ∧ v = nI (k - 8) ∧ ∀ i, 8 ≤ i → i < k → ¬ isNm f q t i) ∨ (v = -1 ∧ ∀ i, 8 ≤ i → i < 12 → ¬ isNm f q t i)) := by
  have r := fun j (hj : j < 12) => c_reads h e8 e9 qt tn hj
  have one : ¬ (1 : Int32) = 0 := by decide
  have y8 : ∀ i, 8 ≤ i → i < 8 → ¬ isNm f q t i := fun i _ w => by omega
  unfold kX0_measureNamed
  simp only [ckd_ok h.1.1]
  rcases r 8 (by omega) with ⟨a, b⟩ | ⟨a, b⟩
  · rw [b, bind_s, if_neg one]
    exact ⟨_, rfl, Or.inl ⟨8, by omega, by omega, a, rfl, y8⟩⟩
  have y9 := nm_up y8 a
  rw [b, bind_s, if_pos rfl]
  clear a b
  rcases r 9 (by omega) with ⟨a, b⟩ | ⟨a, b⟩
  · rw [b, bind_s, if_neg one]
    exact ⟨_, rfl, Or.inl ⟨9, by omega, by omega, a, rfl, y9⟩⟩
  have y10 := nm_up y9 a
  rw [b, bind_s, if_pos rfl]
  clear a b
  rcases r 10 (by omega) with ⟨a, b⟩ | ⟨a, b⟩
  · rw [b, bind_s, if_neg one]
    exact ⟨_, rfl, Or.inl ⟨10, by omega, by omega, a, rfl, y10⟩⟩
  have y11 := nm_up y10 a
  rw [b, bind_s, if_pos rfl]
  clear a b
  rcases r 11 (by omega) with ⟨a, b⟩ | ⟨a, b⟩
  · rw [b, bind_s, if_neg one]
    exact ⟨_, rfl, Or.inl ⟨11, by omega, by omega, a, rfl, y11⟩⟩
  have y12 := nm_up y11 a
  rw [b, bind_s, if_pos rfl]
  clear a b
  exact ⟨_, rfl, Or.inr ⟨rfl, y12⟩⟩
theorem fst_c {v u : Int32} (a : Fsn f q t 0 12 u) (b : Fsn f q t 0 8 v) : (∃ k, k < 8 ∧ isNm f q t k ∧ v = nI k ∧ u = nI k) ∨ (v = -1 ∧ (u = -1 ∨ ∃ k, 8 ≤ k ∧ k < 12 ∧ u = nI k)) := by
  rcases b with ⟨k, k1, k2, k3, k4, k5⟩ | ⟨k1, k2⟩
  · rcases a with ⟨j, j1, j2, j3, j4, j5⟩ | ⟨j1, j2⟩
    · have : j = k := by
        rcases Nat.lt_trichotomy j k with w | w | w
        · exact absurd j3 (k5 j (by omega) w)
        · exact w
        · exact absurd k3 (j5 k (by omega) w)
      subst this
      exact Or.inl ⟨j, k2, k3, k4, j4⟩
    · exact absurd k3 (j2 k (by omega) (by omega))
  · rcases a with ⟨j, j1, j2, j3, j4, j5⟩ | ⟨j1, j2⟩
    · refine Or.inr ⟨k1, Or.inr ⟨j, ?_, j2, j4⟩⟩
      exact Nat.le_of_not_lt (fun w => k2 j (by omega) w j3)
    · exact Or.inr ⟨k1, Or.inl j1⟩
theorem fst_m {v u : Int32} (a : Fsn f q t 0 12 u) (b : (∃ k, 8 ≤ k ∧ k < 12 ∧ isNm f q t k ∧ v = nI (k - 8) ∧ ∀ i, 8 ≤ i → i < k → ¬ isNm f q t i) ∨ (v = -1 ∧ ∀ i, 8 ≤ i → i < 12 → ¬ isNm f q t i)) : (∃ k, 8 ≤ k ∧ k < 12 ∧ isNm f q t k ∧ v = nI (k - 8) ∧ u = nI k) ∨ (v = -1 ∧ (u = -1 ∨ ∃ k, k < 8 ∧ u = nI k)) := by
  rcases b with ⟨k, k1, k2, k3, k4, k5⟩ | ⟨k1, k2⟩
  · rcases a with ⟨j, j1, j2, j3, j4, j5⟩ | ⟨j1, j2⟩
    · have j8 : 8 ≤ j := Nat.le_of_not_lt (fun w => isNm_d w k2 k1 j3 k3)
      have : j = k := by
        rcases Nat.lt_trichotomy j k with w | w | w
        · exact absurd j3 (k5 j (by omega) w)
        · exact w
        · exact absurd k3 (j5 k (by omega) w)
      subst this
      exact Or.inl ⟨j, k1, k2, k3, k4, j4⟩
    · exact absurd k3 (j2 k (by omega) (by omega))
  · rcases a with ⟨j, j1, j2, j3, j4, j5⟩ | ⟨j1, j2⟩
    · refine Or.inr ⟨k1, Or.inr ⟨j, ?_, j4⟩⟩
      exact Nat.lt_of_not_le (fun w => k2 j w j2 j3)
    · exact Or.inr ⟨k1, Or.inl j1⟩
theorem tks_le : tks f n q ≤ 3 := by
  unfold tks
  split
  · exact so_le.2
  · omega
/-- a name is sought only if the token is letters -/
theorem c_pick (h : Kr f n σ) (qn : q ≤ n) (e7 : σ.fi 7 53 = nI (tks f n q)) (e8 : σ.fi 8 53 = nI q) (e9 : σ.fi 9 53 = nI (tke f n q)) (ht : t = rn f n isLt (n - q) q) : ∃ v, (∀ (Y : Type) (g : Int32 → Option Y), (gfi σ 10 7 53).bind (fun v36 => if v36 = 1 then ckd σ 53 10 ((kX0_commandNamed σ 53).bind g) else g (-1)) = g v) ∧ Fsn f q t 0 8 v ∧ (v ≠ -1 → σ.fi 9 53 = nI t) := by
  have tl := rn_le (n := n) (f := f) (P := isLt) (n - q) q (by omega)
  rw [← ht] at tl
  obtain ⟨x1, x2⟩ := tk_lt (f := f) (n := n) (q := q) qn
  rw [← ht] at x1 x2
  have s3 : tks f n q ≤ 3 := tks_le
  by_cases z : tks f n q = 1
  · have g := e9
    rw [x2 z] at g
    obtain ⟨v, a, b⟩ := c_cnamed h e8 g tl.1 tl.2
    refine ⟨v, fun Y k => ?_, b, fun _ => g⟩
    rw [gfi_ok h.1.1, bind_s, e7, if_pos (by rw [z]; rfl), ckd_ok h.1.1, a, bind_s]
  · have qt : t = q := Classical.byContradiction (fun w => z (x1.mpr w))
    refine ⟨-1, fun Y k => ?_, Or.inr ⟨rfl, nm_no qt (by omega)⟩, fun w => absurd rfl w⟩
    rw [gfi_ok h.1.1, bind_s, e7, if_neg (by rw [show (1 : Int32) = nI 1 from rfl, nI_eq (by omega) (by omega)]; exact z)]
theorem c_pickm (h : Kr f n σ) (qn : q ≤ n) (e7 : σ.fi 7 53 = nI (tks f n q)) (e8 : σ.fi 8 53 = nI q) (e9 : σ.fi 9 53 = nI (tke f n q)) (ht : t = rn f n isLt (n - q) q) : ∃ v, (∀ (Y : Type) (g : Int32 → Option Y), (gfi σ 10 7 53).bind (fun v36 => if v36 = 1 then ckd σ 53 10 ((kX0_measureNamed σ 53).bind g) else g (-1)) = g v) ∧ ((∃ k, 8 ≤ k ∧ k < 12 ∧ isNm f q t k ∧ v = nI (k - 8) ∧ ∀ i, 8 ≤ i → i < k → ¬ isNm f q t i) ∨ (v = -1 ∧ ∀ i, 8 ≤ i → i < 12 → ¬ isNm f q t i)) ∧ (v ≠ -1 → σ.fi 9 53 = nI t) := by
  have tl := rn_le (n := n) (f := f) (P := isLt) (n - q) q (by omega)
  rw [← ht] at tl
  obtain ⟨x1, x2⟩ := tk_lt (f := f) (n := n) (q := q) qn
  rw [← ht] at x1 x2
  have s3 : tks f n q ≤ 3 := tks_le
  by_cases z : tks f n q = 1
  · have g := e9
    rw [x2 z] at g
    obtain ⟨v, a, b⟩ := c_mnamed h e8 g tl.1 tl.2
    refine ⟨v, fun Y k => ?_, b, fun _ => g⟩
    rw [gfi_ok h.1.1, bind_s, e7, if_pos (by rw [z]; rfl), ckd_ok h.1.1, a, bind_s]
  · have qt : t = q := Classical.byContradiction (fun w => z (x1.mpr w))
    refine ⟨-1, fun Y k => ?_, Or.inr ⟨rfl, nm_no qt (by omega)⟩, fun w => absurd rfl w⟩
    rw [gfi_ok h.1.1, bind_s, e7, if_neg (by rw [show (1 : Int32) = nI 1 from rfl, nI_eq (by omega) (by omega)]; exact z)]
/-- both read a measure's name -/
theorem j_rname {x p : Nat} (hx : x < 300) (h : Atp f n σ S p) : ∃ v σ' r S', kX0_readMeasure σ 53 = some (v, σ') ∧ r_readName S (nI x) = some (r, S') ∧ Tkn f n σ S p x v σ' r S' ∧ (r = 1 → ∃ k, k ≤ 3 ∧ v = nI k) := by
  obtain ⟨h1, h2, hp, e9, e46, e6, e45⟩ := h
  have n3 := h2.1
  obtain ⟨q, hq⟩ : ∃ q, q = rn f n isBl (n - p) p := ⟨_, rfl⟩
  have ql := rn_le (n := n) (f := f) (P := isBl) (n - p) p (by omega)
  rw [← hq] at ql
  obtain ⟨t, ht⟩ : ∃ t, t = rn f n isLt (n - q) q := ⟨_, rfl⟩
  have tl := rn_le (n := n) (f := f) (P := isLt) (n - q) q (by omega)
  rw [← ht] at tl
  obtain ⟨σ1, a, b, c, d, g⟩ := c_goOn h1 hp e9
  rw [← hq] at c d g
  have k : Kr f n σ1 := h1.d b.d
  obtain ⟨v, v1, v2, v3⟩ := c_pickm k ql.2 c d g ht
  obtain ⟨S1, sa, sb, sc, sd, sg⟩ := r_skip_eq h2 hp e46
  rw [← hq] at sc sd
  have w1 : Rw x S S1 := ⟨fun j _ => by rw [sb], fun i _ => by rw [sb], fun k q1 q2 q3 => sg k q2 q3⟩
  obtain ⟨u, S2, k1, k2, k3, k4, k5⟩ := r_readKnown_eq (w1.sh h2) ql.2 sc sd ht
  have w2 : Rw x S1 S2 := ⟨fun j _ => by rw [k2], fun i _ => by rw [k2], fun k q1 q2 q3 => k4 k q2⟩
  have xl : x < m_len 28 := by rw [show m_len 28 = 300 from rfl]; omega
  have e : kX0_readMeasure σ 53 = kX0_readMeasure_20 53 v σ1 := by
    unfold kX0_readMeasure
    rw [ckd_ok h1.1.1, a, bind_s]
    exact v1 _ _
  rw [e]
  unfold r_readName r_readName_32 kX0_readMeasure_20
  rw [sa, bind_s, k1, bd2_s, wr_ok xl (by omega), bind_s]
  rcases fst_m k5 v2 with ⟨m, m1, m2, m3, rfl, rfl⟩ | ⟨rfl, m3⟩
  · have nm1 : ¬ nI (m - 8) = -1 := fun w => (nI_m1 (by omega)).mp w
    have l3 := (nm_t m m2).2.2.2.1
    have tq := m3.1
    rw [if_neg nm1, pfi_ok k.1.1, bind_s, if_pos (show (8 : Int32) ≤ nI m from nI_le (a := 8) m1 (by omega)), zb_1, bind_s]
    refine ⟨_, _, 1, _, rfl, rfl, ⟨b.d.tr D69.x, (w1.tr w2).tr Rw.w, Or.inl ⟨rfl, ?_, t, by omega, k.d D69.x, ((w1.tr w2).tr Rw.w).sh h2, tl.2, ?_, k3, ?_, ?_⟩⟩, fun _ => ⟨m - 8, by omega, rfl⟩⟩
    · refine Eq.trans ?_ up2_s.symm
      rw [show (8 : Int32) = nI 8 from rfl, pk_sub m1]
    · rw [fi_sfi, if_neg (by omega)]; exact v3 nm1
    · rw [fi_sfi, if_pos ⟨rfl, rfl⟩]
    · show S2.2 45 = _
      rw [k4 45 (by omega), sg 45 (by omega) (by omega)]; exact e45
  · have nl : ¬ 8 ≤ u := by
      rcases m3 with rfl | ⟨m, m1, rfl⟩
      · decide
      · exact nI_ge (b := 8) m1 (by omega)
    rw [if_pos rfl, gfi_ok k.1.1, bind_s, d, pfi_ok k.1.1, bind_s, if_neg nl, r_isWrong_eq, bd2_s, if_pos rfl, zb_0, bind_s]
    have f45 : (pf ((up2 S2.1 28 x (u - 8), S2.2) : MS) 45 (S2.2 47)).2 45 = nI q := by
      rw [pf_s, k4 47 (by omega)]; exact sd
    refine ⟨_, _, 0, _, rfl, rfl, ⟨b.d.tr D69.x, ((w1.tr w2).tr Rw.w).tr (Rw.p (Or.inl rfl)), Or.inr ⟨rfl, ?_, ?_⟩⟩, fun w => absurd w (by decide)⟩
    · rw [fi_sfi, if_pos ⟨rfl, rfl⟩]; exact f45.symm
    · exact fun w => (nI_m1 (show q < 2 ^ 31 by omega)).mp (f45.symm.trans w)
end CNAMED
