section BLD
variable {V : Vt} {π : Nat → Nat}
theorem Ts.used {σ : Hp} {E : Nat} {L : List Nat} (h : Ts σ E L V) {u : Nat} (hu : u ≤ V.U) : Ts (sfi σ 709 3 (nI u)) E L (V.sU u) ∧ Tq σ E L (sfi σ 709 3 (nI u)) E L := by
  obtain ⟨h1, h2, h3, h4, h5, h6, h7⟩ := h
  obtain ⟨a1, ⟨a2, a3⟩, a4, a5, a6, a7, a8⟩ := id h1
  have ne : ∀ c ∈ L, c ≠ 3 := fun c hc z => by
    have := pg_hd (a6 c hc) a1 h1.kl
    omega
  refine ⟨⟨⟨a1.si (Or.inl rfl), ⟨by rw [fi_sfi, if_pos ⟨rfl, rfl⟩]; rfl, by rw [fi_sfi, if_neg (by omega)]; exact a3⟩, a4.si (by omega), a5, fun c hc => (a6 c hc).si, Nat.le_trans hu a7, fun p c hp hc => (a8 p c (Nat.lt_of_lt_of_le hp hu) hc).si (ne c (List.mem_of_getElem? hc))⟩, h2, h3, h4, h5, h6, h7⟩, Df.xi (Or.inl (Or.inl ⟨by omega, by omega⟩)), fun _ _ q => q, fun _ _ q => q, Nat.le_refl _, Nat.le_refl _⟩
theorem r_free2 {S : MS} {q : Nat} (hq : q < 784) : ∀ (m F k : Nat) (T : MS), m < F → k + m = 30 → Cq (fun r => r = q) (S.1 0) (T.1 0) → Rn Ra Rb S T → ∃ T', r_freePage_2 F (nI q) (nI k) T = some T' ∧ Cq (fun r => r = q) (S.1 0) (T'.1 0) ∧ Rn Ra Rb S T' ∧ T'.1 0 (94 + 30 * q) = -1
  | m, 0, _, _, h, _, _, _ => absurd h (Nat.not_lt_zero m)
  | 0, F + 1, k, T, _, hk, cx, rn => by
    have : k = 30 := by omega
    subst this
    rw [r_freePage_2.eq_2, if_pos (by decide), show (0 : Int32) = nI 0 from rfl, r_let_eq hq (by omega), bind_s]
    refine ⟨_, rfl, ?_, rn.tr (Rn.r0 (Or.inl rfl)), by rw [r0_0, Nat.add_zero]; exact upd_s⟩
    rw [r0_0]
    exact cx.tr (Cq.up rfl (by omega))
  | m + 1, F + 1, k, T, hF, hk, cx, rn => by
    rw [r_freePage_2.eq_2, show (30 : Int32) = nI 30 from rfl, if_neg (nI_ge (by omega) (by omega)), r_let_eq hq (by omega), bind_s, nI_1]
    exact r_free2 hq m F (k + 1) _ (by omega) (by omega) (by rw [r0_0]; exact cx.tr (Cq.up rfl (by omega))) (rn.tr (Rn.r0 (Or.inl rfl)))
theorem r_clear2 {S : MS} : ∀ (m F i : Nat) (T : MS), m < F → i + m = 784 → Cq (fun r => r < 784) (S.1 0) (T.1 0) → Rn Ra Rb S T → (∀ q, q < i → T.1 0 (94 + 30 * q) = -1) → ∃ T', r_clearTree_2 F (nI i) T = bd2 (r_newPage T' 1) (fun v1 S2 => (wr S2 0 2 v1).bind (fun S3 => some S3)) ∧ Cq (fun r => r < 784) (S.1 0) (T'.1 0) ∧ Rn Ra Rb S T' ∧ ∀ q, q < 784 → T'.1 0 (94 + 30 * q) = -1
  | m, 0, _, _, h, _, _, _, _ => absurd h (Nat.not_lt_zero m)
  | 0, F + 1, i, T, _, hi, cx, rn, hq => by
    have : i = 784 := by omega
    subst this
    rw [r_clearTree_2.eq_2, if_pos (by decide)]
    exact ⟨T, rfl, cx, rn, hq⟩
  | m + 1, F + 1, i, T, hF, hi, cx, rn, hq => by
    rw [r_clearTree_2.eq_2, show (784 : Int32) = nI 784 from rfl, if_neg (nI_ge (by omega) (by omega))]
    unfold r_freePage
    obtain ⟨T1, g1, g2, g3, g4⟩ := r_free2 (S := T) (q := i) (by omega) 30 FU 0 T (FU_gt (by omega)) rfl Cq.rfl Rn.rfl
    rw [show (0 : Int32) = nI 0 from rfl, g1, bind_s, nI_1]
    refine r_clear2 m F (i + 1) T1 (by omega) (by omega) (cx.tr (g2.mono (fun r z => by omega))) (rn.tr g3) (fun q hq2 => ?_)
    by_cases z : q = i
    · rw [z]; exact g4
    · rw [g2 _ (fun r hr => by omega)]
      exact hq q (by omega)
/-- a tree with nothing in it -/
def gh0 : Gh := mkGh (fun _ => 0) (fun _ => 0) (fun _ => none) (fun h => if h = 0 then 1 else 0)
theorem Wf.nil (hU : V.U = 1) (hR : V.R = 0) (hP : V.P 0 = mkP true none []) : Wf V gh0 V.U := by
  refine ⟨⟨by omega, by rw [hR, hP]; rfl⟩, fun p hp => ?_, fun t p h => (by cases h), ?_, ?_, ?_, ?_, ?_, ?_, ?_⟩
  · have : p = 0 := by omega
    subst this
    unfold Wp
    rw [hP, hR]
    exact ⟨⟨⟨fun _ => rfl, fun _ => rfl⟩, Nat.zero_le _, fun z => absurd rfl z, fun z => (by cases z), Nat.le_refl _⟩, fun e he => (by cases he), ⟨fun z => (by cases z), fun _ => List.nodup_nil⟩, fun _ c hc => (by cases hc), fun z => absurd rfl z⟩
  · rw [hU]
    rfl
  · rw [hU]
    show 1 = 0 + (if (V.P 0).lf = true then 1 else 0)
    rw [hP]; rfl
  · rw [hU]
    show 0 + (if (V.P 0).lf = true then (V.P 0).es.length else 0) = nth gh0
    rw [hP]; rfl
  · show 1 ≤ 39; omega
  · intro h hh
    exact absurd hh (Nat.not_lt_zero _)
  · intro h hh
    have hh : 0 < h := hh
    show (if h = 0 then 1 else 0) = 0
    rw [if_neg (by omega)]
  · show 0 < 1; omega
theorem Po.cg {σ σ' : Hp} {S S' : MS} {E : Nat} {L : List Nat} {X X' : Nat → Bool} (h : Po σ S E L V σ' S' X) (hx : ∀ t, X t = X' t) : Po σ S E L V σ' S' X' := by
  obtain ⟨E', L', V2, π2, g2, z1, z2, z3, z4, z5, z6, z7, z8⟩ := h
  exact ⟨E', L', V2, π2, g2, z1, z2, z3, z4, z5, z6, z7, fun t => (z8 t).trans (hx t)⟩
set_option maxHeartbeats 1000000 in
theorem j_build {σ : Hp} {S : MS} {E : Nat} {L : List Nat} (ts : Ts σ E L V) (rw0 : RW (S.1 0) 2 V) (hv : Vw V) : ∃ σ' S', kX9_buildAnew σ 23 = some σ' ∧ r_buildNow S = some S' ∧ Po σ S E L V σ' S' (fun t => decide (hs V t)) := by
  have e0 : (0 : Int32) = nI 0 := rfl
  -- the class's pages are cleared
  obtain ⟨t1, q1⟩ := ts.used (Nat.zero_le V.U)
  generalize hs1 : sfi σ 709 3 (nI 0) = σ1 at t1 q1
  obtain ⟨σ2, E2, L2, k1, k2, k3, k4⟩ := t1.take (l := true) (by show 0 < 900; omega)
  obtain ⟨t3, q3⟩ := k2.root 0
  generalize hs3 : sfi σ2 710 3 (nI 0) = σ3 at t3 q3
  generalize hV0 : (((V.sU 0).sU ((V.sU 0).U + 1)).sP (V.sU 0).U (mkP true none [])).sR 0 = V0 at t3
  have vU : V0.U = 1 := by rw [← hV0]; rfl
  have vR : V0.R = 0 := by rw [← hV0]; rfl
  have vP : V0.P 0 = mkP true none [] := by
    rw [← hV0]
    show (((V.sU 0).sU 1).sP 0 (mkP true none [])).P 0 = _
    exact sP_s
  have sm0 : Sm V V0 := by rw [← hV0]; exact ⟨rfl, rfl, rfl, rfl⟩
  have cl : kX9_buildAnew σ 23 = kX9_buildAnew_9 FU 23 0 σ3 := by
    unfold kX9_buildAnew kX7_clearPages
    have k1 : kX7_takePage σ1 3 1 = some (0, σ2) := k1
    rw [ts.2.1.st, bind_s, ts.1.cs, pfi_ok ts.1.ks, bind_s, e0, hs1, t1.1.cs, ← e0, k1, bd2_s, pfi_ok k2.1.ks, bind_s, bind_s]
    rw [e0, hs3]
  -- the reference's
  obtain ⟨T1, g1, g2, g3, g4⟩ := r_clear2 (S := S) 784 FU 0 S (FU_gt (by omega)) rfl Cq.rfl Rn.rfl (fun q hq => absurd hq (Nat.not_lt_zero _))
  obtain ⟨f1, m1, m2, m3⟩ := r_newPage_eq (S := T1) (u := 0) (lf := true) (by omega) (fun p hp => absurd hp (Nat.not_lt_zero _)) (g4 0 (by omega))
  have m1 : r_newPage T1 1 = some (0, r0 T1 f1) := m1
  have rcl : r_buildNow S = r_buildNow_6 FU 0 (r0 T1 (upd f1 2 0)) := by
    unfold r_buildNow r_clearTree
    have g1 : r_clearTree_2 FU 0 S = _ := g1
    rw [g1, m1, bd2_s, show (2 : Int32) = nI 2 from rfl, wr_r0 (by omega), bind_s, bind_s, r0_0, r0_r0]
  have cf : Cq (fun r => r < 784) (S.1 0) f1 := fun x hx => (m3 x (hx 0 (by omega))).trans (g2 x hx)
  have rt3 : RT (upd f1 2 0) V0 (fun _ => 0) := by
    have c3 : ∀ x, x ≠ 2 → upd f1 2 0 x = f1 x := fun x hx => upd_n hx
    have z := cf.rw hv rw0
    have rw3 : RW (upd f1 2 0) 2 V := by
      obtain ⟨⟨b1, b2, b3⟩, b4, b5⟩ := z
      exact ⟨⟨by rw [c3 _ (by omega)]; exact b1, by rw [c3 _ (by omega)]; exact b2, by rw [c3 _ (by omega)]; exact b3⟩, fun t ht => by rw [c3 _ (by omega)]; exact b4 t ht, fun k e he => by rw [c3 _ (by omega), c3 _ (by omega), c3 _ (by omega)]; exact b5 k e he⟩
    refine ⟨sm0.rww rw3, upd_s, fun p hp => ?_, fun p hp hp2 => ?_, fun p q hp hq _ => by omega, fun q hq => ⟨0, by omega, by show 0 = q; omega⟩⟩
    · have : p = 0 := by omega
      subst this
      rw [vP]
      exact ⟨by rw [vU]; exact Nat.zero_lt_one, m2.keep (fun x q1 q2 => c3 x (by omega))⟩
    · rw [c3 _ (by omega), m3 _ (by omega)]
      exact g4 p hp2
  have base : Po σ S E L V σ3 (r0 T1 (upd f1 2 0)) (fun x => decide (x < 0 ∧ hs V x)) := by
    refine ⟨E2, L2, V0, fun _ => 0, gh0, t3, by rw [r0_0]; exact rt3, Wf.nil vU vR vP, (q1.tr k3).tr q3, (g3.mono (fun x q => by unfold Ra at q; unfold Rd; omega) (fun x q => q)).tr (Rn.r0 (Or.inl rfl)), fun x hx => ?_, sm0, fun t => ?_⟩
    · rw [r0_0, upd_n (by omega)]
      exact cf x (fun r hr => by omega)
    · show false = decide (t < 0 ∧ hs V t)
      rw [decide_eq_false (fun z => Nat.not_lt_zero _ z.1)]
  rw [cl, rcl]
  have fin := lp 40 (fun F t (s : Hp × MS) => (kX9_buildAnew_9 F 23 (nI t) s.1, r_buildNow_6 F (nI t) s.2)) (fun t s => Po σ S E L V s.1 s.2 (fun x => decide (x < t ∧ hs V x))) (fun r => ∃ σ' S', r = (some σ', some S') ∧ Po σ S E L V σ' S' (fun t => decide (hs V t))) (fun F s J => ?_) (fun F t s ht J => Or.inl ?_) 40 0 FU (σ3, r0 T1 (upd f1 2 0)) (FU_gt (by omega)) rfl base
  · obtain ⟨σ', S', y1, y2⟩ := fin
    exact ⟨σ', S', (Prod.mk.inj y1).1, (Prod.mk.inj y1).2, y2⟩
  · refine ⟨s.1, s.2, ?_, J.cg (fun t => ?_)⟩
    · show (kX9_buildAnew_9 (F + 1) 23 (nI 40) s.1, r_buildNow_6 (F + 1) (nI 40) s.2) = _
      rw [kX9_buildAnew_9.eq_2, if_pos (by decide), r_buildNow_6.eq_2, if_pos (by decide)]
    · by_cases z : hs V t
      · rw [decide_eq_true z, decide_eq_true ⟨z.1, z⟩]
      · rw [decide_eq_false z, decide_eq_false (fun y => z y.2)]
  · obtain ⟨s1, s2⟩ := s
    obtain ⟨E', L', V', π', g', z1, z2, z3, z4, z5, z6, z7, z8⟩ := id J
    have hv' := z7.vw hv
    have hw : V'.W t = V.W t := by rw [z7.1]
    have rd4 : ald s1 1 4 (nI t) = some (nI (V.W t)) := by
      rw [ald_ok z1.1.1.1.2.1 (by rw [z1.1.1.2.1.1]; exact ht) (by omega), z1.1.1.2.2.2.2.1 t ht, hw]
    have f700 : gfr s1 17 700 3 = some 4 := by rw [gfr_ok z1.1.ks, z1.1.1.2.2.1.1]
    have w31 := isW_31 (hv.1 t ht)
    show ∃ a', _ ∧ (kX9_buildAnew_9 (F + 1) 23 (nI t) s1, r_buildNow_6 (F + 1) (nI t) s2) = _
    rw [kX9_buildAnew_9.eq_2, r_buildNow_6.eq_2, show (40 : Int32) = nI 40 from rfl, if_neg (nI_ge ht (by omega)), if_neg (nI_ge ht (by omega)), z1.2.1.st, bind_s, f700, bind_s, rd4, bind_s, r_isThing_eq z2.1 hv' (by omega), bind_s, ite_bI]
    unfold kX9_buildAnew_32 r_buildNow_25
    by_cases z : V.W t = 0
    · rw [if_pos (by rw [z]; rfl), if_neg (fun y => y.2 (hw.trans z)), nI_1]
      refine ⟨(s1, s2), J.cg (fun x => ?_), rfl⟩
      by_cases y : hs V x
      · have : x ≠ t := fun w => y.2 (w ▸ z)
        by_cases w : x < t
        · rw [decide_eq_true ⟨w, y⟩, decide_eq_true ⟨by omega, y⟩]
        · rw [decide_eq_false (fun v => w v.1), decide_eq_false (fun v => by omega)]
      · rw [decide_eq_false (fun v => y v.2), decide_eq_false (fun v => y v.2)]
    · have hst : hs V' t := ⟨ht, by rw [hw]; exact z⟩
      have hn : g'.lo t = none := by
        have : (g'.lo t).isSome = decide (t < t ∧ hs V t) := z8 t
        rw [decide_eq_false (fun v => Nat.lt_irrefl _ v.1)] at this
        cases w : g'.lo t with
        | none => rfl
        | some x => rw [w] at this; cases this
      obtain ⟨σ5, S5, y1, y2, y3⟩ := j_insert z1 z2 hv' z3 hst hn
      rw [if_neg (nI_ne0 (by omega) w31), if_pos hst, ckd_ok z1.2.1.1.1, y1, bind_s, y2, bind_s, nI_1]
      refine ⟨(σ5, S5), ?_, rfl⟩
      obtain ⟨E5, L5, V5, π5, g5, w1, w2, w3, w4, w5, w6, w7, w8⟩ := y3
      refine ⟨E5, L5, V5, π5, g5, w1, w2, w3, z4.tr w4, z5.tr w5, fun x hx => (w6 x hx).trans (z6 x hx), z7.tr w7, fun x => ?_⟩
      rw [w8 x]
      show (if x = t then true else (g'.lo x).isSome) = decide (x < t + 1 ∧ hs V x)
      by_cases y : x = t
      · rw [if_pos y, y, decide_eq_true ⟨by omega, ht, z⟩]
      · rw [if_neg y, z8 x]
        show decide (x < t ∧ hs V x) = _
        by_cases v : x < t ∧ hs V x
        · rw [decide_eq_true v, decide_eq_true ⟨by omega, v.2⟩]
        · rw [decide_eq_false v, decide_eq_false (fun u => v ⟨by omega, u.2⟩)]
end BLD
