section RINIT
/-- the names are written one after the other -/
noncomputable def wrl : List Int32 → Nat → MS → (MS → Option MS) → Option MS
  | [], _, S, K => K S
  | v :: vs, k, S, K => (wr S 27 (nI k) v).bind (fun T => wrl vs (k + 1) T K)
theorem wrl_eq : ∀ (vs : List Int32) (k : Nat) (S : MS) (K : MS → Option MS), k + vs.length ≤ 62 → ∃ T, wrl vs k S K = K T ∧ T.2 = S.2 ∧ (∀ j, j ≠ 27 → T.1 j = S.1 j) ∧ (∀ i, i < k → T.1 27 i = S.1 27 i) ∧ ∀ i, i < vs.length → T.1 27 (k + i) = vs.getD i 0
  | [], k, S, K, _ => ⟨S, rfl, rfl, fun _ _ => rfl, fun _ _ => rfl, fun i hi => absurd hi (Nat.not_lt_zero i)⟩
  | v :: vs, k, S, K, h => by
    have h1 : k + (vs.length + 1) ≤ 62 := h
    unfold wrl
    rw [wr_ok (show k < m_len 27 by rw [show m_len 27 = 62 from rfl]; omega) (by omega), bind_s]
    obtain ⟨T, a, b, c, d, e⟩ := wrl_eq vs (k + 1) (up2 S.1 27 k v, S.2) K (by omega)
    refine ⟨T, a, b, fun j hj => (c j hj).trans (up2_r hj), fun i hi => (d i (by omega)).trans (up2_i (by omega)), fun i hi => ?_⟩
    cases i with
    | zero => exact (d k (by omega)).trans up2_s
    | succ i =>
      have hi : i + 1 < vs.length + 1 := hi
      rw [show k + (i + 1) = k + 1 + i by omega, e i (by omega)]
      rfl
theorem zt_ok {S : MS} (h : ∀ j i, 30 ≤ j → S.1 j i = 0) : zeroTail S = some () := by
  unfold zeroTail
  exact if_pos h
set_option maxRecDepth 100000 in
theorem r_init_wrl : r_init = wrl nmL 0 (pf mS0 45 (-1)) (fun T62 => (wr T62 0 4 4).bind (fun T63 => (r_clearTree T63).bind (fun T64 => (zeroTail T64).bind (fun _ => (r_copy T64 0 1).bind (fun T65 => (zeroTail T65).bind (fun _ => some T65)))))) := rfl
theorem vw00 : Vw V00 := ⟨fun t _ => Or.inl rfl, by decide, ⟨by decide, by decide⟩, by decide, fun e he => (by cases he), List.Pairwise.nil⟩
theorem wf00 : Wf V00 gh0 V00.U := Wf.nil rfl rfl rfl
theorem g00 (t : Nat) : (gh0.lo t).isSome = decide (hs V00 t) := (decide_eq_false (fun z : hs V00 t => z.2 rfl)).symm
/-- the reference begins -/
theorem j_rinit : ∃ Z, r_init = some Z ∧ RT (Z.1 0) V00 (fun _ => 0) ∧ (Z.1 0 0 = 0 ∧ Z.1 0 1 = 0) ∧ (∀ x, x < 495854 → Z.1 1 x = Z.1 0 x) ∧ (∀ i, i < 62 → Z.1 27 i = nmL.getD i 0) ∧ Z.2 33 = 0 ∧ Z.2 44 = 0 ∧ Z.2 45 = -1 ∧ Z.2 52 = 0 := by
  obtain ⟨T, a, b, c, -, e⟩ := wrl_eq nmL 0 (pf mS0 45 (-1)) (fun T62 => (wr T62 0 4 4).bind (fun T63 => (r_clearTree T63).bind (fun T64 => (zeroTail T64).bind (fun _ => (r_copy T64 0 1).bind (fun T65 => (zeroTail T65).bind (fun _ => some T65)))))) (by decide)
  have z0 : ∀ j x, j ≠ 27 → T.1 j x = 0 := fun j x hj => by rw [c j hj, pf_1]; rfl
  obtain ⟨S, hS⟩ : ∃ S : MS, S = r0 T (upd (T.1 0) 4 4) := ⟨_, rfl⟩
  have s0 : ∀ x, S.1 0 x = if x = 4 then 4 else 0 := fun x => by
    rw [hS, r0_0]
    by_cases q : x = 4
    · rw [if_pos q, q]; exact upd_s
    · rw [if_neg q, upd_n q, z0 0 x (by omega)]
  have sj : ∀ j, j ≠ 0 → S.1 j = T.1 j := fun j hj => by rw [hS, r0_j hj]
  have rw0 : RW (S.1 0) 2 V00 := by
    refine ⟨⟨by rw [s0, if_neg (by omega)]; rfl, by rw [s0, if_pos rfl]; rfl, by rw [s0, if_neg (by omega)]; rfl⟩, fun t ht => by rw [s0, if_neg (by omega)]; rfl, fun k e he => by cases he⟩
  obtain ⟨T1, g1, g2, g3, g4⟩ := r_clear2 (S := S) 784 FU 0 S (FU_gt (by omega)) rfl Cq.rfl Rn.rfl (fun q hq => absurd hq (Nat.not_lt_zero _))
  obtain ⟨f1, m1, m2, m3⟩ := r_newPage_eq (S := T1) (u := 0) (lf := true) (by omega) (fun p hp => absurd hp (Nat.not_lt_zero _)) (g4 0 (by omega))
  have m1 : r_newPage T1 1 = some (0, r0 T1 f1) := m1
  have rcl : r_clearTree S = some (r0 T1 (upd f1 2 0)) := by
    unfold r_clearTree
    have g1 : r_clearTree_2 FU 0 S = _ := g1
    rw [g1, m1, bd2_s, show (2 : Int32) = nI 2 from rfl, wr_r0 (by omega), bind_s, r0_0, r0_r0]
  have cf : Cq (fun r => r < 784) (S.1 0) f1 := fun x hx => (m3 x (hx 0 (by omega))).trans (g2 x hx)
  have c3 : ∀ x, x ≠ 2 → upd f1 2 0 x = f1 x := fun x hx => upd_n hx
  have rt3 : RT (upd f1 2 0) V00 (fun _ => 0) := by
    have z := cf.rw vw00 rw0
    have rw3 : RW (upd f1 2 0) 2 V00 := by
      obtain ⟨⟨b1, b2, b3⟩, b4, b5⟩ := z
      exact ⟨⟨by rw [c3 _ (by omega)]; exact b1, by rw [c3 _ (by omega)]; exact b2, by rw [c3 _ (by omega)]; exact b3⟩, fun t ht => by rw [c3 _ (by omega)]; exact b4 t ht, fun k e he => by cases he⟩
    refine ⟨rw3, upd_s, fun p hp => ?_, fun p hp hp2 => ?_, fun p q hp hq _ => ?_, fun q hq => ⟨0, Nat.zero_lt_one, ?_⟩⟩
    · have hp : p < 1 := hp
      have : p = 0 := by omega
      subst this
      exact ⟨Nat.zero_lt_one, m2.keep (fun x q1 q2 => c3 x (by omega))⟩
    · have hp : 1 ≤ p := hp
      rw [c3 _ (by omega), m3 _ (by omega)]
      exact g4 p hp2
    · have hp : p < 1 := hp
      have hq : q < 1 := hq
      omega
    · have hq : q < 1 := hq
      show 0 = q
      omega
  obtain ⟨Z, k1, k2, k3, k4⟩ := r_copy_eq (S := r0 T1 (upd f1 2 0)) (a := 0) (b := 1) (Or.inl ⟨rfl, rfl⟩)
  have tl1 : ∀ j i, 30 ≤ j → (r0 T1 (upd f1 2 0)).1 j i = 0 := fun j i hj => by
    rw [r0_j (by omega), g3.1 j (by unfold Ra; omega), sj j (by omega), z0 j i (by omega)]
  have tl2 : ∀ j i, 30 ≤ j → Z.1 j i = 0 := fun j i hj => by
    rw [k3 j (by omega)]; exact tl1 j i hj
  have nf : ∀ k, k < 8 ∨ 14 < k → Z.2 k = (pf mS0 45 (-1)).2 k := fun k hk => by
    rw [k4, r0_f, g3.2 k (by unfold Rb; omega), hS, r0_f, b]
  refine ⟨Z, ?_, ?_, ⟨?_, ?_⟩, ?_, fun i hi => ?_, ?_, ?_, ?_, ?_⟩
  · have w4 : wr T 0 4 4 = some S := by
      rw [hS, show (4 : Int32) = nI 4 from rfl, wr_r0 (by omega)]
    rw [r_init_wrl, a, w4, bind_s, rcl, bind_s, zt_ok tl1, bind_s, k1, bind_s, zt_ok tl2, bind_s]
  · rw [k3 0 (by omega), r0_0]; exact rt3
  · rw [k3 0 (by omega), r0_0, c3 0 (by omega), cf 0 (fun q hq => by omega), s0, if_neg (by omega)]
  · rw [k3 0 (by omega), r0_0, c3 1 (by omega), cf 1 (fun q hq => by omega), s0, if_neg (by omega)]
  · intro x hx
    rw [k2 x hx, k3 0 (by omega)]
  · rw [k3 27 (by omega), r0_j (by omega), g3.1 27 (by unfold Ra; omega), sj 27 (by omega)]
    have := e i (show i < nmL.length from hi)
    rw [Nat.zero_add] at this
    exact this
  · rw [nf 33 (by omega), pf_n (by omega)]; rfl
  · rw [nf 44 (by omega), pf_n (by omega)]; rfl
  · rw [nf 45 (by omega), pf_s]
  · rw [nf 52 (by omega), pf_n (by omega)]; rfl
end RINIT
