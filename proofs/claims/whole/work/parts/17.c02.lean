/-! X2_between -/
def kX2_between (σ : Hp) (x0 : Nat) (x1 : Int32) (x2 : Int32) (x3 : Int32) : Option (Int32 × Hp) := if x2 = x3 then some (0, σ) else (gfr σ 12 200 x0).bind (fun v1 => bd2 (kX2_spellOut σ x2 v1) (fun v2 σ3 => (gfr σ3 12 201 x0).bind (fun v4 => bd2 (kX2_spellOut σ3 x3 v4) (fun v5 σ6 => if x1 = 0 then ckd σ6 x0 12 (bd2 (kX2_byEdit σ6 x0 v2 v5) (fun v7 σ8 => some (v7, σ8))) else if x1 = 1 then ckd σ6 x0 12 ((kX2_byPlace σ6 x0).bind (fun v9 => some (v9, σ6))) else if x1 = 2 then ckd σ6 x0 12 ((kX2_bySum σ6 x0).bind (fun v10 => some (v10, σ6))) else ckd σ6 x0 12 ((kX2_byHead σ6 x0).bind (fun v11 => some (v11, σ6)))))))
set_option maxRecDepth 20000 in
theorem ksX2_between {l : Launch} {G : Gt} {n0 u0 : Nat} {σ : Hp} {Z : Int32 × Hp} (x0 : Nat) (x1 : Int32) (x2 : Int32) (x3 : Int32) (h : kX2_between σ x0 x1 x2 x3 = some Z) : GoC l G RX2 "between" cX2_between 6 (some .int) 1 25 n0 u0 (some (.int Z.1)) Z.2 0 [(0, G.rv x0), (1, .int x1), (2, .int x2), (3, .int x3)] [] σ := by
  unfold kX2_between at h
  refine GoC.iload_n 2 dX2_between_0 rfl ?_
  refine GoC.iload_n 3 dX2_between_1 rfl ?_
  refine GoC.icmp_ne 7 dX2_between_2 (by decide) h (fun h => ?_) (fun h => ?_)
  · refine GoC.iload_n 2 dX2_between_7 rfl ?_
    refine GC.aload_n 0 dX2_between_8 rfl ?_
    refine GC.getr 2 0 rfl (by decide) (by decide) fw_X2_9 (Or.inl rfl) dX2_between_9 h (fun v1 h => ?_)
    obtain ⟨v2, σ3, hq, h⟩ := bd2_some h
    refine GC.callsI (rest := []) [.int x2, G.rv v1] dX2_between_12 kk_X2_25 km_X2_spellOut (ktX2_spellOut _ _ _ hq) rfl rfl (Nat.le_of_ble_eq_true rfl) (Nat.le_of_ble_eq_true rfl) trivial (Nat.le_of_ble_eq_true rfl) ?_
    refine GoC.istore [(0, G.rv x0), (1, .int x1), (2, .int x2), (3, .int x3), (4, .int v2)] dX2_between_15 (by decide) rfl ?_
    refine GoC.iload_n 3 dX2_between_17 rfl ?_
    refine GC.aload_n 0 dX2_between_18 rfl ?_
    refine GC.getr 2 1 rfl (by decide) (by decide) fw_X2_15 (Or.inl rfl) dX2_between_19 h (fun v4 h => ?_)
    obtain ⟨v5, σ6, hq, h⟩ := bd2_some h
    refine GC.callsI (rest := []) [.int x3, G.rv v4] dX2_between_22 kk_X2_25 km_X2_spellOut (ktX2_spellOut _ _ _ hq) rfl rfl (Nat.le_of_ble_eq_true rfl) (Nat.le_of_ble_eq_true rfl) trivial (Nat.le_of_ble_eq_true rfl) ?_
    refine GoC.istore [(0, G.rv x0), (1, .int x1), (2, .int x2), (3, .int x3), (4, .int v2), (5, .int v5)] dX2_between_25 (by decide) rfl ?_
    refine GoC.iload_n 1 dX2_between_27 rfl ?_
    by_cases cc0 : x1 = 0
    · rw [if_pos cc0] at h
      refine GoC.tabIn 56 0 cc0 dX2_between_28 (by decide) (by decide) rfl (by decide) ?_
      refine GC.aload_n 0 dX2_between_56 rfl ?_
      refine GoC.iload 4 dX2_between_57 rfl ?_
      refine GoC.iload 5 dX2_between_59 rfl ?_
      obtain ⟨h0, h⟩ := ckd_some h
      obtain ⟨v7, σ8, hq, h⟩ := bd2_some h
      refine GC.callvI (rest := []) 2 rfl h0 rfl [.int v2, .int v5] dX2_between_61 kk_X2_29 km_X2_byEdit.1 km_X2_byEdit.2 (ktX2_byEdit _ _ _ _ hq) rfl rfl (Nat.le_of_ble_eq_true rfl) (Nat.le_of_ble_eq_true rfl) trivial (Nat.le_of_ble_eq_true rfl) ?_
      cases h
      exact GoC.iret dX2_between_64 rfl
    rw [if_neg cc0] at h
    by_cases cc1 : x1 = 1
    · rw [if_pos cc1] at h
      refine GoC.tabIn 65 1 cc1 dX2_between_28 (by decide) (by decide) rfl (by decide) ?_
      refine GC.aload_n 0 dX2_between_65 rfl ?_
      obtain ⟨h0, h⟩ := ckd_some h
      obtain ⟨v9, hq, h⟩ := Option.bind_eq_some_iff.mp h
      refine GC.callvI (rest := []) 2 rfl h0 rfl [] dX2_between_66 kk_X2_33 km_X2_byPlace.1 km_X2_byPlace.2 (ktX2_byPlace _ _ hq) rfl rfl (Nat.le_of_ble_eq_true rfl) (Nat.le_of_ble_eq_true rfl) trivial (Nat.le_of_ble_eq_true rfl) ?_
      cases h
      exact GoC.iret dX2_between_69 rfl
    rw [if_neg cc1] at h
    by_cases cc2 : x1 = 2
    · rw [if_pos cc2] at h
      refine GoC.tabIn 70 2 cc2 dX2_between_28 (by decide) (by decide) rfl (by decide) ?_
      refine GC.aload_n 0 dX2_between_70 rfl ?_
      obtain ⟨h0, h⟩ := ckd_some h
      obtain ⟨v10, hq, h⟩ := Option.bind_eq_some_iff.mp h
      refine GC.callvI (rest := []) 2 rfl h0 rfl [] dX2_between_71 kk_X2_37 km_X2_bySum.1 km_X2_bySum.2 (ktX2_bySum _ _ hq) rfl rfl (Nat.le_of_ble_eq_true rfl) (Nat.le_of_ble_eq_true rfl) trivial (Nat.le_of_ble_eq_true rfl) ?_
      cases h
      exact GoC.iret dX2_between_74 rfl
    rw [if_neg cc2] at h
    refine GoC.tabOut 75 dX2_between_28 (sw_out (0) 3 (by decide) (fun k hk => match k, hk with | 0, _ => cc0 | 1, _ => cc1 | 2, _ => cc2 | (k + 3), hk => absurd hk (by omega)) _ rfl) (by decide) ?_
    refine GC.aload_n 0 dX2_between_75 rfl ?_
    obtain ⟨h0, h⟩ := ckd_some h
    obtain ⟨v11, hq, h⟩ := Option.bind_eq_some_iff.mp h
    refine GC.callvI (rest := []) 2 rfl h0 rfl [] dX2_between_76 kk_X2_40 km_X2_byHead.1 km_X2_byHead.2 (ktX2_byHead _ _ hq) rfl rfl (Nat.le_of_ble_eq_true rfl) (Nat.le_of_ble_eq_true rfl) trivial (Nat.le_of_ble_eq_true rfl) ?_
    cases h
    exact GoC.iret dX2_between_79 rfl
  · refine GoC.iconst 0 dX2_between_5 (by decide) ?_
    cases h
    exact GoC.iret dX2_between_6 rfl
set_option maxRecDepth 20000 in
theorem ktX2_between {l : Launch} {G : Gt} {σ : Hp} (x0 : Nat) (x1 : Int32) (x2 : Int32) (x3 : Int32) : ∀ Z, kX2_between σ x0 x1 x2 x3 = some Z → MtC l G yX2_between cX2_between 6 (some .int) 1 25 [G.rv x0, .int x1, .int x2, .int x3] σ (some (.int Z.1)) Z.2 := fun Z h => MtC.at (by decide +kernel) ⟨G.rv_cat _, rfl, rfl, rfl, trivial⟩ (Nat.le_of_ble_eq_true rfl) (ksX2_between x0 x1 x2 x3 h)
/-! X1_learnUnknown -/
def kX1_learnUnknown_120 (k2 : Nat → Int32 → Hp → Option (Hp)) (x0 : Nat) (x1 : Int32) (σ : Hp) : Option (Hp) := k2 x0 (x1 + 1) σ
def kX1_learnUnknown_114 (k2 : Nat → Int32 → Hp → Option (Hp)) (k22 : Nat → Int32 → Int32 → Hp → Option (Hp)) (x0 : Nat) (x1 : Int32) (x2 : Int32) (σ : Hp) : Option (Hp) := k22 x0 x1 (x2 + 1) σ
def kX1_learnUnknown_72 (k2 : Nat → Int32 → Hp → Option (Hp)) (k22 : Nat → Int32 → Int32 → Hp → Option (Hp)) (x0 : Nat) (x1 : Int32) (x2 : Int32) (x3 : Int32) (x4 : Int32) (σ : Hp) : Option (Hp) := (gfr σ 11 101 x0).bind (fun v1 => (gfr σ 11 100 x0).bind (fun v2 => (gfi σ 11 103 x0).bind (fun v3 => (gfr σ 11 102 x0).bind (fun v4 => (ald σ 1 v4 x1).bind (fun v5 => (gfr σ 11 102 x0).bind (fun v6 => (ald σ 1 v6 x2).bind (fun v7 => ckd σ v2 12 (bd2 (kX2_between σ v2 v3 v5 v7) (fun v8 σ9 => (ast σ9 1 v1 x3 v8).bind (fun σ10 => (gfr σ10 11 101 x0).bind (fun v11 => (gfr σ10 11 101 x0).bind (fun v12 => (ald σ10 1 v12 x3).bind (fun v13 => (ast σ10 1 v11 x4 v13).bind (fun σ14 => kX1_learnUnknown_114 k2 k22 x0 x1 x2 σ14))))))))))))))
def kX1_learnUnknown_22 (k2 : Nat → Int32 → Hp → Option (Hp)) : Nat → Nat → Int32 → Int32 → Hp → Option (Hp)
  | 0, _, _, _, _ => none
  | n + 1, x0, x1, x2, σ => if x1 < x2 then kX1_learnUnknown_120 k2 x0 x1 σ else (gfr σ 11 102 x0).bind (fun v15 => (ald σ 1 v15 x2).bind (fun v16 => if v16 = 0 then kX1_learnUnknown_114 k2 (kX1_learnUnknown_22 k2 n) x0 x1 x2 σ else (gfr σ 11 101 x0).bind (fun v17 => (ald σ 1 v17 ((x1 * 40) + x2)).bind (fun v18 => if v18 = (-1) then kX1_learnUnknown_72 k2 (kX1_learnUnknown_22 k2 n) x0 x1 x2 ((x1 * 40) + x2) ((x2 * 40) + x1) σ else (gfr σ 11 101 x0).bind (fun v19 => (ald σ 1 v19 ((x2 * 40) + x1)).bind (fun v20 => if v20 = (-1) then kX1_learnUnknown_72 k2 (kX1_learnUnknown_22 k2 n) x0 x1 x2 ((x1 * 40) + x2) ((x2 * 40) + x1) σ else kX1_learnUnknown_114 k2 (kX1_learnUnknown_22 k2 n) x0 x1 x2 σ))))))
def kX1_learnUnknown_2  : Nat → Nat → Int32 → Hp → Option (Hp)
  | 0, _, _, _ => none
  | n + 1, x0, x1, σ => if 40 ≤ x1 then some σ else (gfr σ 11 102 x0).bind (fun v21 => (ald σ 1 v21 x1).bind (fun v22 => if v22 = 0 then kX1_learnUnknown_120 (kX1_learnUnknown_2 n) x0 x1 σ else kX1_learnUnknown_22 (kX1_learnUnknown_2 n) FU x0 x1 0 σ))
def kX1_learnUnknown (σ : Hp) (x0 : Nat) : Option (Hp) := kX1_learnUnknown_2 FU x0 0 σ
set_option maxRecDepth 20000 in
theorem ksX1_learnUnknown_120 {l : Launch} {G : Gt} {n0 u0 : Nat} {Z : Hp} (k2 : Nat → Int32 → Hp → Option (Hp)) (h2 : ∀ (x0 : Nat) (x1 : Int32) (σ : Hp), k2 x0 x1 σ = some Z → GoC l G RX1 "learnUnknown" cX1_learnUnknown 5 none 2 50 n0 u0 none Z 2 [(0, G.rv x0), (1, .int x1)] [] σ) (x0 : Nat) (x1 : Int32) (σ : Hp) (h : kX1_learnUnknown_120 k2 x0 x1 σ = some Z) : GoC l G RX1 "learnUnknown" cX1_learnUnknown 5 none 2 50 n0 u0 none Z 120 [(0, G.rv x0), (1, .int x1)] [] σ := by
  unfold kX1_learnUnknown_120 at h
  refine GoC.iinc (w := 1) 1 [(0, G.rv x0), (1, .int (x1 + 1))] dX1_learnUnknown_120 rfl (by decide) (by decide) rfl ?_
  refine GoC.goto 2 dX1_learnUnknown_123 (by decide) ?_
  exact h2 _ _ _ h
set_option maxRecDepth 20000 in
theorem ksX1_learnUnknown_114 {l : Launch} {G : Gt} {n0 u0 : Nat} {Z : Hp} (k2 : Nat → Int32 → Hp → Option (Hp)) (h2 : ∀ (x0 : Nat) (x1 : Int32) (σ : Hp), k2 x0 x1 σ = some Z → GoC l G RX1 "learnUnknown" cX1_learnUnknown 5 none 2 50 n0 u0 none Z 2 [(0, G.rv x0), (1, .int x1)] [] σ) (k22 : Nat → Int32 → Int32 → Hp → Option (Hp)) (h22 : ∀ (x0 : Nat) (x1 : Int32) (x2 : Int32) (σ : Hp), k22 x0 x1 x2 σ = some Z → GoC l G RX1 "learnUnknown" cX1_learnUnknown 5 none 2 50 n0 u0 none Z 22 [(0, G.rv x0), (1, .int x1), (2, .int x2)] [] σ) (x0 : Nat) (x1 : Int32) (x2 : Int32) (σ : Hp) (h : kX1_learnUnknown_114 k2 k22 x0 x1 x2 σ = some Z) : GoC l G RX1 "learnUnknown" cX1_learnUnknown 5 none 2 50 n0 u0 none Z 114 [(0, G.rv x0), (1, .int x1), (2, .int x2)] [] σ := by
  unfold kX1_learnUnknown_114 at h
  refine GoC.iinc (w := 1) 2 [(0, G.rv x0), (1, .int x1), (2, .int (x2 + 1))] dX1_learnUnknown_114 rfl (by decide) (by decide) rfl ?_
  refine GoC.goto 22 dX1_learnUnknown_117 (by decide) ?_
  exact h22 _ _ _ _ h
set_option maxRecDepth 20000 in
theorem ksX1_learnUnknown_72 {l : Launch} {G : Gt} {n0 u0 : Nat} {Z : Hp} (k2 : Nat → Int32 → Hp → Option (Hp)) (h2 : ∀ (x0 : Nat) (x1 : Int32) (σ : Hp), k2 x0 x1 σ = some Z → GoC l G RX1 "learnUnknown" cX1_learnUnknown 5 none 2 50 n0 u0 none Z 2 [(0, G.rv x0), (1, .int x1)] [] σ) (k22 : Nat → Int32 → Int32 → Hp → Option (Hp)) (h22 : ∀ (x0 : Nat) (x1 : Int32) (x2 : Int32) (σ : Hp), k22 x0 x1 x2 σ = some Z → GoC l G RX1 "learnUnknown" cX1_learnUnknown 5 none 2 50 n0 u0 none Z 22 [(0, G.rv x0), (1, .int x1), (2, .int x2)] [] σ) (x0 : Nat) (x1 : Int32) (x2 : Int32) (x3 : Int32) (x4 : Int32) (σ : Hp) (h : kX1_learnUnknown_72 k2 k22 x0 x1 x2 x3 x4 σ = some Z) : GoC l G RX1 "learnUnknown" cX1_learnUnknown 5 none 2 50 n0 u0 none Z 72 [(0, G.rv x0), (1, .int x1), (2, .int x2), (3, .int x3), (4, .int x4)] [] σ := by
  unfold kX1_learnUnknown_72 at h
  refine GC.aload_n 0 dX1_learnUnknown_72 rfl ?_
  refine GC.getr 1 1 rfl (by decide) (by decide) fw_X1_9 (Or.inl rfl) dX1_learnUnknown_73 h (fun v1 h => ?_)
  refine GoC.iload_n 3 dX1_learnUnknown_76 rfl ?_
  refine GC.aload_n 0 dX1_learnUnknown_77 rfl ?_
  refine GC.getr 1 0 rfl (by decide) (by decide) fw_X1_25 (Or.inl rfl) dX1_learnUnknown_78 h (fun v2 h => ?_)
  refine GC.aload_n 0 dX1_learnUnknown_81 rfl ?_
  refine GC.geti 1 3 rfl (by decide) (by decide) fw_X1_18 (Or.inl rfl) dX1_learnUnknown_82 h (fun v3 h => ?_)
  refine GC.aload_n 0 dX1_learnUnknown_85 rfl ?_
  refine GC.getr 1 2 rfl (by decide) (by decide) fw_X1_15 (Or.inl rfl) dX1_learnUnknown_86 h (fun v4 h => ?_)
  refine GoC.iload_n 1 dX1_learnUnknown_89 rfl ?_
  refine GC.iald dX1_learnUnknown_90 h (fun v5 h => ?_)
  refine GC.aload_n 0 dX1_learnUnknown_91 rfl ?_
  refine GC.getr 1 2 rfl (by decide) (by decide) fw_X1_15 (Or.inl rfl) dX1_learnUnknown_92 h (fun v6 h => ?_)
  refine GoC.iload_n 2 dX1_learnUnknown_95 rfl ?_
  refine GC.iald dX1_learnUnknown_96 h (fun v7 h => ?_)
  obtain ⟨h0, h⟩ := ckd_some h
  obtain ⟨v8, σ9, hq, h⟩ := bd2_some h
  refine GC.callvI (rest := [.int x3, G.rv v1]) 2 rfl h0 rfl [.int v3, .int v5, .int v7] dX1_learnUnknown_97 kk_X1_77 km_X2_between.1 km_X2_between.2 (ktX2_between _ _ _ _ _ hq) rfl rfl (Nat.le_of_ble_eq_true rfl) (Nat.le_of_ble_eq_true rfl) ⟨rfl, G.rv_cat _, trivial⟩ (Nat.le_of_ble_eq_true rfl) ?_
  refine GC.iast dX1_learnUnknown_100 h (fun σ10 h => ?_)
  refine GC.aload_n 0 dX1_learnUnknown_101 rfl ?_
  refine GC.getr 1 1 rfl (by decide) (by decide) fw_X1_9 (Or.inl rfl) dX1_learnUnknown_102 h (fun v11 h => ?_)
  refine GoC.iload 4 dX1_learnUnknown_105 rfl ?_
  refine GC.aload_n 0 dX1_learnUnknown_107 rfl ?_
  refine GC.getr 1 1 rfl (by decide) (by decide) fw_X1_9 (Or.inl rfl) dX1_learnUnknown_108 h (fun v12 h => ?_)
  refine GoC.iload_n 3 dX1_learnUnknown_111 rfl ?_
  refine GC.iald dX1_learnUnknown_112 h (fun v13 h => ?_)
  refine GC.iast dX1_learnUnknown_113 h (fun σ14 h => ?_)
  refine GoC.sub [0, 1, 2] rfl ?_
  exact ksX1_learnUnknown_114 _ h2 _ h22 _ _ _ _ h
set_option maxRecDepth 20000 in
theorem ksX1_learnUnknown_22 {l : Launch} {G : Gt} {n0 u0 : Nat} {Z : Hp} (k2 : Nat → Int32 → Hp → Option (Hp)) (h2 : ∀ (x0 : Nat) (x1 : Int32) (σ : Hp), k2 x0 x1 σ = some Z → GoC l G RX1 "learnUnknown" cX1_learnUnknown 5 none 2 50 n0 u0 none Z 2 [(0, G.rv x0), (1, .int x1)] [] σ) (n : Nat) : ∀ (x0 : Nat) (x1 : Int32) (x2 : Int32) (σ : Hp), kX1_learnUnknown_22 k2 n x0 x1 x2 σ = some Z → GoC l G RX1 "learnUnknown" cX1_learnUnknown 5 none 2 50 n0 u0 none Z 22 [(0, G.rv x0), (1, .int x1), (2, .int x2)] [] σ := by
  induction n with
  | zero => intro x0 x1 x2 σ h; rw [kX1_learnUnknown_22] at h; cases h
  | succ n ih =>
    intro x0 x1 x2 σ h
    rw [kX1_learnUnknown_22] at h
    refine GoC.iload_n 2 dX1_learnUnknown_22 rfl ?_
    refine GoC.iload_n 1 dX1_learnUnknown_23 rfl ?_
    refine GoC.icmp_gt 120 dX1_learnUnknown_24 (by decide) h (fun h => ?_) (fun h => ?_)
    · refine GoC.sub [0, 1] rfl ?_
      exact ksX1_learnUnknown_120 _ h2 _ _ _ h
    · refine GoC.iload_n 1 dX1_learnUnknown_27 rfl ?_
      refine GoC.bipush 40 dX1_learnUnknown_28 (by decide) ?_
      refine GoC.imul dX1_learnUnknown_30 ?_
      refine GoC.iload_n 2 dX1_learnUnknown_31 rfl ?_
      refine GoC.iadd dX1_learnUnknown_32 ?_
      refine GoC.istore_n [(0, G.rv x0), (1, .int x1), (2, .int x2), (3, .int ((x1 * 40) + x2))] dX1_learnUnknown_33 (by decide) rfl ?_
      refine GoC.iload_n 2 dX1_learnUnknown_34 rfl ?_
      refine GoC.bipush 40 dX1_learnUnknown_35 (by decide) ?_
      refine GoC.imul dX1_learnUnknown_37 ?_
      refine GoC.iload_n 1 dX1_learnUnknown_38 rfl ?_
      refine GoC.iadd dX1_learnUnknown_39 ?_
      refine GoC.istore [(0, G.rv x0), (1, .int x1), (2, .int x2), (3, .int ((x1 * 40) + x2)), (4, .int ((x2 * 40) + x1))] dX1_learnUnknown_40 (by decide) rfl ?_
      refine GC.aload_n 0 dX1_learnUnknown_42 rfl ?_
      refine GC.getr 1 2 rfl (by decide) (by decide) fw_X1_15 (Or.inl rfl) dX1_learnUnknown_43 h (fun v15 h => ?_)
      refine GoC.iload_n 2 dX1_learnUnknown_46 rfl ?_
      refine GC.iald dX1_learnUnknown_47 h (fun v16 h => ?_)
      refine GoC.if_eq 114 dX1_learnUnknown_48 (by decide) h (fun h => ?_) (fun h => ?_)
      · refine GoC.sub [0, 1, 2] rfl ?_
        exact ksX1_learnUnknown_114 _ h2 _ ih _ _ _ _ h
      · refine GC.aload_n 0 dX1_learnUnknown_51 rfl ?_
        refine GC.getr 1 1 rfl (by decide) (by decide) fw_X1_9 (Or.inl rfl) dX1_learnUnknown_52 h (fun v17 h => ?_)
        refine GoC.iload_n 3 dX1_learnUnknown_55 rfl ?_
        refine GC.iald dX1_learnUnknown_56 h (fun v18 h => ?_)
        refine GoC.iconst (-1) dX1_learnUnknown_57 (by decide) ?_
        refine GoC.icmp_eq 72 dX1_learnUnknown_58 (by decide) h (fun h => ?_) (fun h => ?_)
        · exact ksX1_learnUnknown_72 _ h2 _ ih _ _ _ _ _ _ h
        · refine GC.aload_n 0 dX1_learnUnknown_61 rfl ?_
          refine GC.getr 1 1 rfl (by decide) (by decide) fw_X1_9 (Or.inl rfl) dX1_learnUnknown_62 h (fun v19 h => ?_)
          refine GoC.iload 4 dX1_learnUnknown_65 rfl ?_
          refine GC.iald dX1_learnUnknown_67 h (fun v20 h => ?_)
          refine GoC.iconst (-1) dX1_learnUnknown_68 (by decide) ?_
          refine GoC.icmp_ne 114 dX1_learnUnknown_69 (by decide) h (fun h => ?_) (fun h => ?_)
          · refine GoC.sub [0, 1, 2] rfl ?_
            exact ksX1_learnUnknown_114 _ h2 _ ih _ _ _ _ h
          · exact ksX1_learnUnknown_72 _ h2 _ ih _ _ _ _ _ _ h
set_option maxRecDepth 20000 in
theorem ksX1_learnUnknown_2 {l : Launch} {G : Gt} {n0 u0 : Nat} {Z : Hp} (n : Nat) : ∀ (x0 : Nat) (x1 : Int32) (σ : Hp), kX1_learnUnknown_2 n x0 x1 σ = some Z → GoC l G RX1 "learnUnknown" cX1_learnUnknown 5 none 2 50 n0 u0 none Z 2 [(0, G.rv x0), (1, .int x1)] [] σ := by
  induction n with
  | zero => intro x0 x1 σ h; rw [kX1_learnUnknown_2] at h; cases h
  | succ n ih =>
    intro x0 x1 σ h
    rw [kX1_learnUnknown_2] at h
    refine GoC.iload_n 1 dX1_learnUnknown_2 rfl ?_
    refine GoC.bipush 40 dX1_learnUnknown_3 (by decide) ?_
    refine GoC.icmp_ge 126 dX1_learnUnknown_5 (by decide) h (fun h => ?_) (fun h => ?_)
    · cases h
      exact GoC.vret dX1_learnUnknown_126 rfl
    · refine GC.aload_n 0 dX1_learnUnknown_8 rfl ?_
      refine GC.getr 1 2 rfl (by decide) (by decide) fw_X1_15 (Or.inl rfl) dX1_learnUnknown_9 h (fun v21 h => ?_)
      refine GoC.iload_n 1 dX1_learnUnknown_12 rfl ?_
      refine GC.iald dX1_learnUnknown_13 h (fun v22 h => ?_)
      refine GoC.if_ne 20 dX1_learnUnknown_14 (by decide) h (fun h => ?_) (fun h => ?_)
      · refine GoC.iconst 0 dX1_learnUnknown_20 (by decide) ?_
        refine GoC.istore_n [(0, G.rv x0), (1, .int x1), (2, .int 0)] dX1_learnUnknown_21 (by decide) rfl ?_
        exact ksX1_learnUnknown_22 _ ih _ _ _ _ _ h
      · refine GoC.goto 120 dX1_learnUnknown_17 (by decide) ?_
        exact ksX1_learnUnknown_120 _ ih _ _ _ h
set_option maxRecDepth 20000 in
theorem ksX1_learnUnknown {l : Launch} {G : Gt} {n0 u0 : Nat} {σ : Hp} {Z : Hp} (x0 : Nat) (h : kX1_learnUnknown σ x0 = some Z) : GoC l G RX1 "learnUnknown" cX1_learnUnknown 5 none 2 50 n0 u0 none Z 0 [(0, G.rv x0)] [] σ := by
  unfold kX1_learnUnknown at h
  refine GoC.iconst 0 dX1_learnUnknown_0 (by decide) ?_
  refine GoC.istore_n [(0, G.rv x0), (1, .int 0)] dX1_learnUnknown_1 (by decide) rfl ?_
  exact ksX1_learnUnknown_2 _ _ _ _ h
set_option maxRecDepth 20000 in
theorem ktX1_learnUnknown {l : Launch} {G : Gt} {σ : Hp} (x0 : Nat) : ∀ Z, kX1_learnUnknown σ x0 = some Z → MtC l G yX1_learnUnknown cX1_learnUnknown 5 none 2 50 [G.rv x0] σ none Z := fun Z h => MtC.at (by decide +kernel) ⟨G.rv_cat _, trivial⟩ (Nat.le_of_ble_eq_true rfl) (ksX1_learnUnknown x0 h)
/-! X1_follow -/
def kX1_follow_115  : Nat → Nat → Nat → Int32 → Hp → Option (Hp)
  | 0, _, _, _, _ => none
  | n + 1, x0, x1, x2, σ => (gfi σ 11 105 x0).bind (fun v1 => if v1 ≤ x2 then some σ else (gfr σ 11 104 x0).bind (fun v2 => (gfr σ 17 702 x1).bind (fun v3 => (ald σ 1 v3 x2).bind (fun v4 => (gfr σ 17 703 x1).bind (fun v5 => (ald σ 1 v5 x2).bind (fun v6 => (ast σ 1 v2 x2 ((v4 * 40) + v6)).bind (fun σ7 => (gfr σ7 11 101 x0).bind (fun v8 => (gfr σ7 11 104 x0).bind (fun v9 => (ald σ7 1 v9 x2).bind (fun v10 => (gfr σ7 17 704 x1).bind (fun v11 => (ald σ7 1 v11 x2).bind (fun v12 => (ast σ7 1 v8 v10 v12).bind (fun σ13 => kX1_follow_115 n x0 x1 (x2 + 1) σ13)))))))))))))
def kX1_follow_95 (k57 : Nat → Nat → Int32 → Hp → Option (Hp)) (x0 : Nat) (x1 : Nat) (x2 : Int32) (σ : Hp) : Option (Hp) := k57 x0 x1 (x2 + 1) σ
def kX1_follow_57  : Nat → Nat → Nat → Int32 → Hp → Option (Hp)
  | 0, _, _, _, _ => none
  | n + 1, x0, x1, x2, σ => if 40 ≤ x2 then ckd σ x0 11 ((kX1_learnUnknown σ x0).bind (fun σ14 => (gfi σ14 17 705 x1).bind (fun v15 => (pfi σ14 11 105 x0 v15).bind (fun σ16 => kX1_follow_115 FU x0 x1 0 σ16)))) else (gfr σ 11 102 x0).bind (fun v17 => (ald σ 1 v17 x2).bind (fun v18 => (gfr σ 17 700 x1).bind (fun v19 => (ald σ 1 v19 x2).bind (fun v20 => if v18 = v20 then kX1_follow_95 (kX1_follow_57 n) x0 x1 x2 σ else ckd σ x0 11 ((kX1_unlearn σ x0 x2).bind (fun σ21 => (gfr σ21 11 102 x0).bind (fun v22 => (gfr σ21 17 700 x1).bind (fun v23 => (ald σ21 1 v23 x2).bind (fun v24 => (ast σ21 1 v22 x2 v24).bind (fun σ25 => kX1_follow_95 (kX1_follow_57 n) x0 x1 x2 σ25))))))))))
def kX1_follow_55  (x0 : Nat) (x1 : Nat) (σ : Hp) : Option (Hp) := kX1_follow_57 FU x0 x1 0 σ
def kX1_follow_2  : Nat → Nat → Nat → Int32 → Hp → Option (Hp)
  | 0, _, _, _, _ => none
  | n + 1, x0, x1, x2, σ => (gfi σ 11 105 x0).bind (fun v26 => if v26 ≤ x2 then (gfi σ 11 103 x0).bind (fun v27 => (gfi σ 17 706 x1).bind (fun v28 => if v27 = v28 then kX1_follow_55 x0 x1 σ else (gfr σ 11 101 x0).bind (fun v29 => (kJ7_fill_53178 σ v29 (-1)).bind (fun σ30 => (gfi σ30 17 706 x1).bind (fun v31 => (pfi σ30 11 103 x0 v31).bind (fun σ32 => kX1_follow_55 x0 x1 σ32)))))) else (gfr σ 11 101 x0).bind (fun v33 => (gfr σ 11 104 x0).bind (fun v34 => (ald σ 1 v34 x2).bind (fun v35 => (ast σ 1 v33 v35 (-1)).bind (fun σ36 => kX1_follow_2 n x0 x1 (x2 + 1) σ36)))))
def kX1_follow (σ : Hp) (x0 : Nat) (x1 : Nat) : Option (Hp) := kX1_follow_2 FU x0 x1 0 σ
set_option maxRecDepth 20000 in
theorem ksX1_follow_115 {l : Launch} {G : Gt} {n0 u0 : Nat} {Z : Hp} (n : Nat) : ∀ (x0 : Nat) (x1 : Nat) (x2 : Int32) (σ : Hp), kX1_follow_115 n x0 x1 x2 σ = some Z → GoC l G RX1 "follow" cX1_follow 3 none 3 74 n0 u0 none Z 115 [(0, G.rv x0), (1, G.rv x1), (2, .int x2)] [] σ := by
  induction n with
  | zero => intro x0 x1 x2 σ h; rw [kX1_follow_115] at h; cases h
  | succ n ih =>
    intro x0 x1 x2 σ h
    rw [kX1_follow_115] at h
    refine GoC.iload_n 2 dX1_follow_115 rfl ?_
    refine GC.aload_n 0 dX1_follow_116 rfl ?_
    refine GC.geti 1 5 rfl (by decide) (by decide) fw_X1_47 (Or.inl rfl) dX1_follow_117 h (fun v1 h => ?_)
    refine GoC.icmp_ge 168 dX1_follow_120 (by decide) h (fun h => ?_) (fun h => ?_)
    · cases h
      exact GoC.vret dX1_follow_168 rfl
    · refine GC.aload_n 0 dX1_follow_123 rfl ?_
      refine GC.getr 1 4 rfl (by decide) (by decide) fw_X1_22 (Or.inl rfl) dX1_follow_124 h (fun v2 h => ?_)
      refine GoC.iload_n 2 dX1_follow_127 rfl ?_
      refine GC.aload_n 1 dX1_follow_128 rfl ?_
      refine GC.getr 7 2 rfl (by decide) (by decide) fw_X1_68 (Or.inl rfl) dX1_follow_129 h (fun v3 h => ?_)
      refine GoC.iload_n 2 dX1_follow_132 rfl ?_
      refine GC.iald dX1_follow_133 h (fun v4 h => ?_)
      refine GoC.bipush 40 dX1_follow_134 (by decide) ?_
      refine GoC.imul dX1_follow_136 ?_
      refine GC.aload_n 1 dX1_follow_137 rfl ?_
      refine GC.getr 7 3 rfl (by decide) (by decide) fw_X1_71 (Or.inl rfl) dX1_follow_138 h (fun v5 h => ?_)
      refine GoC.iload_n 2 dX1_follow_141 rfl ?_
      refine GC.iald dX1_follow_142 h (fun v6 h => ?_)
      refine GoC.iadd dX1_follow_143 ?_
      refine GC.iast dX1_follow_144 h (fun σ7 h => ?_)
      refine GC.aload_n 0 dX1_follow_145 rfl ?_
      refine GC.getr 1 1 rfl (by decide) (by decide) fw_X1_9 (Or.inl rfl) dX1_follow_146 h (fun v8 h => ?_)
      refine GC.aload_n 0 dX1_follow_149 rfl ?_
      refine GC.getr 1 4 rfl (by decide) (by decide) fw_X1_22 (Or.inl rfl) dX1_follow_150 h (fun v9 h => ?_)
      refine GoC.iload_n 2 dX1_follow_153 rfl ?_
      refine GC.iald dX1_follow_154 h (fun v10 h => ?_)
      refine GC.aload_n 1 dX1_follow_155 rfl ?_
      refine GC.getr 7 4 rfl (by decide) (by decide) fw_X1_74 (Or.inl rfl) dX1_follow_156 h (fun v11 h => ?_)
      refine GoC.iload_n 2 dX1_follow_159 rfl ?_
      refine GC.iald dX1_follow_160 h (fun v12 h => ?_)
      refine GC.iast dX1_follow_161 h (fun σ13 h => ?_)
      refine GoC.iinc (w := 1) 2 [(0, G.rv x0), (1, G.rv x1), (2, .int (x2 + 1))] dX1_follow_162 rfl (by decide) (by decide) rfl ?_
      refine GoC.goto 115 dX1_follow_165 (by decide) ?_
      exact ih _ _ _ _ h
set_option maxRecDepth 20000 in
theorem ksX1_follow_95 {l : Launch} {G : Gt} {n0 u0 : Nat} {Z : Hp} (k57 : Nat → Nat → Int32 → Hp → Option (Hp)) (h57 : ∀ (x0 : Nat) (x1 : Nat) (x2 : Int32) (σ : Hp), k57 x0 x1 x2 σ = some Z → GoC l G RX1 "follow" cX1_follow 3 none 3 74 n0 u0 none Z 57 [(0, G.rv x0), (1, G.rv x1), (2, .int x2)] [] σ) (x0 : Nat) (x1 : Nat) (x2 : Int32) (σ : Hp) (h : kX1_follow_95 k57 x0 x1 x2 σ = some Z) : GoC l G RX1 "follow" cX1_follow 3 none 3 74 n0 u0 none Z 95 [(0, G.rv x0), (1, G.rv x1), (2, .int x2)] [] σ := by
  unfold kX1_follow_95 at h
  refine GoC.iinc (w := 1) 2 [(0, G.rv x0), (1, G.rv x1), (2, .int (x2 + 1))] dX1_follow_95 rfl (by decide) (by decide) rfl ?_
  refine GoC.goto 57 dX1_follow_98 (by decide) ?_
  exact h57 _ _ _ _ h
set_option maxRecDepth 20000 in
theorem ksX1_follow_57 {l : Launch} {G : Gt} {n0 u0 : Nat} {Z : Hp} (n : Nat) : ∀ (x0 : Nat) (x1 : Nat) (x2 : Int32) (σ : Hp), kX1_follow_57 n x0 x1 x2 σ = some Z → GoC l G RX1 "follow" cX1_follow 3 none 3 74 n0 u0 none Z 57 [(0, G.rv x0), (1, G.rv x1), (2, .int x2)] [] σ := by
  induction n with
  | zero => intro x0 x1 x2 σ h; rw [kX1_follow_57] at h; cases h
  | succ n ih =>
    intro x0 x1 x2 σ h
    rw [kX1_follow_57] at h
    refine GoC.iload_n 2 dX1_follow_57 rfl ?_
    refine GoC.bipush 40 dX1_follow_58 (by decide) ?_
    refine GoC.icmp_ge 101 dX1_follow_60 (by decide) h (fun h => ?_) (fun h => ?_)
    · refine GC.aload_n 0 dX1_follow_101 rfl ?_
      obtain ⟨h0, h⟩ := ckd_some h
      obtain ⟨σ14, hq, h⟩ := Option.bind_eq_some_iff.mp h
      refine GC.callvV (rest := []) 1 rfl h0 rfl [] dX1_follow_102 kk_X1_62 km_X1_learnUnknown.1 km_X1_learnUnknown.2 (ktX1_learnUnknown _ _ hq) rfl rfl (Nat.le_of_ble_eq_true rfl) (Nat.le_of_ble_eq_true rfl) trivial (Nat.le_of_ble_eq_true rfl) ?_
      refine GC.aload_n 0 dX1_follow_105 rfl ?_
      refine GC.aload_n 1 dX1_follow_106 rfl ?_
      refine GC.geti 7 5 rfl (by decide) (by decide) fw_X1_65 (Or.inl rfl) dX1_follow_107 h (fun v15 h => ?_)
      refine GC.puti 1 5 rfl (by decide) (by decide) (rfl) fw_X1_47 (Or.inl rfl) (Or.inl rfl) dX1_follow_110 h (fun σ16 h => ?_)
      refine GoC.iconst 0 dX1_follow_113 (by decide) ?_
      refine GoC.istore_n [(0, G.rv x0), (1, G.rv x1), (2, .int 0)] dX1_follow_114 (by decide) rfl ?_
      exact ksX1_follow_115 _ _ _ _ _ h
    · refine GC.aload_n 0 dX1_follow_63 rfl ?_
      refine GC.getr 1 2 rfl (by decide) (by decide) fw_X1_15 (Or.inl rfl) dX1_follow_64 h (fun v17 h => ?_)
      refine GoC.iload_n 2 dX1_follow_67 rfl ?_
      refine GC.iald dX1_follow_68 h (fun v18 h => ?_)
      refine GC.aload_n 1 dX1_follow_69 rfl ?_
      refine GC.getr 7 0 rfl (by decide) (by decide) fw_X1_55 (Or.inl rfl) dX1_follow_70 h (fun v19 h => ?_)
      refine GoC.iload_n 2 dX1_follow_73 rfl ?_
      refine GC.iald dX1_follow_74 h (fun v20 h => ?_)
      refine GoC.icmp_eq 95 dX1_follow_75 (by decide) h (fun h => ?_) (fun h => ?_)
      · exact ksX1_follow_95 _ ih _ _ _ _ h
      · refine GC.aload_n 0 dX1_follow_78 rfl ?_
        refine GoC.iload_n 2 dX1_follow_79 rfl ?_
        obtain ⟨h0, h⟩ := ckd_some h
        obtain ⟨σ21, hq, h⟩ := Option.bind_eq_some_iff.mp h
        refine GC.callvV (rest := []) 1 rfl h0 rfl [.int x2] dX1_follow_80 kk_X1_58 km_X1_unlearn.1 km_X1_unlearn.2 (ktX1_unlearn _ _ _ hq) rfl rfl (Nat.le_of_ble_eq_true rfl) (Nat.le_of_ble_eq_true rfl) trivial (Nat.le_of_ble_eq_true rfl) ?_
        refine GC.aload_n 0 dX1_follow_83 rfl ?_
        refine GC.getr 1 2 rfl (by decide) (by decide) fw_X1_15 (Or.inl rfl) dX1_follow_84 h (fun v22 h => ?_)
        refine GoC.iload_n 2 dX1_follow_87 rfl ?_
        refine GC.aload_n 1 dX1_follow_88 rfl ?_
        refine GC.getr 7 0 rfl (by decide) (by decide) fw_X1_55 (Or.inl rfl) dX1_follow_89 h (fun v23 h => ?_)
        refine GoC.iload_n 2 dX1_follow_92 rfl ?_
        refine GC.iald dX1_follow_93 h (fun v24 h => ?_)
        refine GC.iast dX1_follow_94 h (fun σ25 h => ?_)
        exact ksX1_follow_95 _ ih _ _ _ _ h
set_option maxRecDepth 20000 in
theorem ksX1_follow_55 {l : Launch} {G : Gt} {n0 u0 : Nat} {Z : Hp} (x0 : Nat) (x1 : Nat) (σ : Hp) (h : kX1_follow_55 x0 x1 σ = some Z) : GoC l G RX1 "follow" cX1_follow 3 none 3 74 n0 u0 none Z 55 [(0, G.rv x0), (1, G.rv x1)] [] σ := by
  unfold kX1_follow_55 at h
  refine GoC.iconst 0 dX1_follow_55 (by decide) ?_
  refine GoC.istore_n [(0, G.rv x0), (1, G.rv x1), (2, .int 0)] dX1_follow_56 (by decide) rfl ?_
  exact ksX1_follow_57 _ _ _ _ _ h
set_option maxRecDepth 20000 in
theorem ksX1_follow_2 {l : Launch} {G : Gt} {n0 u0 : Nat} {Z : Hp} (n : Nat) : ∀ (x0 : Nat) (x1 : Nat) (x2 : Int32) (σ : Hp), kX1_follow_2 n x0 x1 x2 σ = some Z → GoC l G RX1 "follow" cX1_follow 3 none 3 74 n0 u0 none Z 2 [(0, G.rv x0), (1, G.rv x1), (2, .int x2)] [] σ := by
  induction n with
  | zero => intro x0 x1 x2 σ h; rw [kX1_follow_2] at h; cases h
  | succ n ih =>
    intro x0 x1 x2 σ h
    rw [kX1_follow_2] at h
    refine GoC.iload_n 2 dX1_follow_2 rfl ?_
    refine GC.aload_n 0 dX1_follow_3 rfl ?_
    refine GC.geti 1 5 rfl (by decide) (by decide) fw_X1_47 (Or.inl rfl) dX1_follow_4 h (fun v26 h => ?_)
    refine GoC.icmp_ge 28 dX1_follow_7 (by decide) h (fun h => ?_) (fun h => ?_)
    · refine GC.aload_n 0 dX1_follow_28 rfl ?_
      refine GC.geti 1 3 rfl (by decide) (by decide) fw_X1_18 (Or.inl rfl) dX1_follow_29 h (fun v27 h => ?_)
      refine GC.aload_n 1 dX1_follow_32 rfl ?_
      refine GC.geti 7 6 rfl (by decide) (by decide) fw_X1_50 (Or.inl rfl) dX1_follow_33 h (fun v28 h => ?_)
      refine GoC.icmp_eq 55 dX1_follow_36 (by decide) h (fun h => ?_) (fun h => ?_)
      · refine GoC.sub [0, 1] rfl ?_
        exact ksX1_follow_55 _ _ _ h
      · refine GC.aload_n 0 dX1_follow_39 rfl ?_
        refine GC.getr 1 1 rfl (by decide) (by decide) fw_X1_9 (Or.inl rfl) dX1_follow_40 h (fun v29 h => ?_)
        refine GoC.iconst (-1) dX1_follow_43 (by decide) ?_
        obtain ⟨σ30, hq, h⟩ := Option.bind_eq_some_iff.mp h
        refine GC.callsV (rest := []) [G.rv v29, .int (-1)] dX1_follow_44 kk_X1_29 km_J7_fill_53178 (ktJ7_fill_53178 _ _ _ hq) rfl rfl (Nat.le_of_ble_eq_true rfl) (Nat.le_of_ble_eq_true rfl) trivial (Nat.le_of_ble_eq_true rfl) ?_
        refine GC.aload_n 0 dX1_follow_47 rfl ?_
        refine GC.aload_n 1 dX1_follow_48 rfl ?_
        refine GC.geti 7 6 rfl (by decide) (by decide) fw_X1_50 (Or.inl rfl) dX1_follow_49 h (fun v31 h => ?_)
        refine GC.puti 1 3 rfl (by decide) (by decide) (rfl) fw_X1_18 (Or.inl rfl) (Or.inl rfl) dX1_follow_52 h (fun σ32 h => ?_)
        refine GoC.sub [0, 1] rfl ?_
        exact ksX1_follow_55 _ _ _ h
    · refine GC.aload_n 0 dX1_follow_10 rfl ?_
      refine GC.getr 1 1 rfl (by decide) (by decide) fw_X1_9 (Or.inl rfl) dX1_follow_11 h (fun v33 h => ?_)
      refine GC.aload_n 0 dX1_follow_14 rfl ?_
      refine GC.getr 1 4 rfl (by decide) (by decide) fw_X1_22 (Or.inl rfl) dX1_follow_15 h (fun v34 h => ?_)
      refine GoC.iload_n 2 dX1_follow_18 rfl ?_
      refine GC.iald dX1_follow_19 h (fun v35 h => ?_)
      refine GoC.iconst (-1) dX1_follow_20 (by decide) ?_
      refine GC.iast dX1_follow_21 h (fun σ36 h => ?_)
      refine GoC.iinc (w := 1) 2 [(0, G.rv x0), (1, G.rv x1), (2, .int (x2 + 1))] dX1_follow_22 rfl (by decide) (by decide) rfl ?_
      refine GoC.goto 2 dX1_follow_25 (by decide) ?_
      exact ih _ _ _ _ h
set_option maxRecDepth 20000 in
theorem ksX1_follow {l : Launch} {G : Gt} {n0 u0 : Nat} {σ : Hp} {Z : Hp} (x0 : Nat) (x1 : Nat) (h : kX1_follow σ x0 x1 = some Z) : GoC l G RX1 "follow" cX1_follow 3 none 3 74 n0 u0 none Z 0 [(0, G.rv x0), (1, G.rv x1)] [] σ := by
  unfold kX1_follow at h
  refine GoC.iconst 0 dX1_follow_0 (by decide) ?_
  refine GoC.istore_n [(0, G.rv x0), (1, G.rv x1), (2, .int 0)] dX1_follow_1 (by decide) rfl ?_
  exact ksX1_follow_2 _ _ _ _ _ h
set_option maxRecDepth 20000 in
theorem ktX1_follow {l : Launch} {G : Gt} {σ : Hp} (x0 : Nat) (x1 : Nat) : ∀ Z, kX1_follow σ x0 x1 = some Z → MtC l G yX1_follow cX1_follow 3 none 3 74 [G.rv x0, G.rv x1] σ none Z := fun Z h => MtC.at (by decide +kernel) ⟨G.rv_cat _, G.rv_cat _, trivial⟩ (Nat.le_of_ble_eq_true rfl) (ksX1_follow x0 x1 h)
/-! X2_init -/
def kX2_init (σ : Hp) (x0 : Nat) : Option (Hp) := (nz x0).bind (fun _ => bd2 (nwA σ 1 6) (fun v1 σ2 => (pfr σ2 12 200 x0 v1).bind (fun σ3 => bd2 (nwA σ3 1 6) (fun v4 σ5 => (pfr σ5 12 201 x0 v4).bind (fun σ6 => bd2 (nwA σ6 1 7) (fun v7 σ8 => (pfr σ8 12 202 x0 v7).bind (fun σ9 => bd2 (nwA σ9 1 7) (fun v10 σ11 => (pfr σ11 12 203 x0 v10).bind (fun σ12 => some σ12)))))))))
set_option maxRecDepth 20000 in
theorem ksX2_init {l : Launch} {G : Gt} {n0 u0 : Nat} {σ : Hp} {Z : Hp} (x0 : Nat) (h : kX2_init σ x0 = some Z) : GoC l G RX2 "<init>" cX2_init 1 none 1 20 n0 u0 none Z 0 [(0, G.rv x0)] [] σ := by
  unfold kX2_init at h
  refine GC.aload_n 0 dX2_init_0 rfl ?_
  obtain ⟨_, h0, h⟩ := Option.bind_eq_some_iff.mp h
  refine GC.oinit (nz_ne h0) oi_X2_3 oi_inst oi_code dX2_init_1 (Nat.le_of_ble_eq_true rfl) trivial (Nat.le_of_ble_eq_true rfl) ?_
  refine GC.aload_n 0 dX2_init_4 rfl ?_
  refine GoC.bipush 6 dX2_init_5 (by decide) ?_
  refine GC.newI ac_int dX2_init_7 h (fun v1 σ2 h => ?_)
  refine GC.putr 2 0 rfl (by decide) (by decide) (Or.inr ⟨_, rfl⟩) fw_X2_9 (Or.inl rfl) (Or.inr ⟨rfl, rfl, rfl⟩) dX2_init_9 h (fun σ3 h => ?_)
  refine GC.aload_n 0 dX2_init_12 rfl ?_
  refine GoC.bipush 6 dX2_init_13 (by decide) ?_
  refine GC.newI ac_int dX2_init_15 h (fun v4 σ5 h => ?_)
  refine GC.putr 2 1 rfl (by decide) (by decide) (Or.inr ⟨_, rfl⟩) fw_X2_15 (Or.inl rfl) (Or.inr ⟨rfl, rfl, rfl⟩) dX2_init_17 h (fun σ6 h => ?_)
  refine GC.aload_n 0 dX2_init_20 rfl ?_
  refine GoC.bipush 7 dX2_init_21 (by decide) ?_
  refine GC.newI ac_int dX2_init_23 h (fun v7 σ8 h => ?_)
  refine GC.putr 2 2 rfl (by decide) (by decide) (Or.inr ⟨_, rfl⟩) fw_X2_18 (Or.inl rfl) (Or.inl rfl) dX2_init_25 h (fun σ9 h => ?_)
  refine GC.aload_n 0 dX2_init_28 rfl ?_
  refine GoC.bipush 7 dX2_init_29 (by decide) ?_
  refine GC.newI ac_int dX2_init_31 h (fun v10 σ11 h => ?_)
  refine GC.putr 2 3 rfl (by decide) (by decide) (Or.inr ⟨_, rfl⟩) fw_X2_21 (Or.inl rfl) (Or.inl rfl) dX2_init_33 h (fun σ12 h => ?_)
  cases h
  exact GoC.vret dX2_init_36 rfl
set_option maxRecDepth 20000 in
theorem ktX2_init {l : Launch} {G : Gt} {σ : Hp} (x0 : Nat) : ∀ Z, kX2_init σ x0 = some Z → MtC l G yX2_init cX2_init 1 none 1 20 [G.rv x0] σ none Z := fun Z h => MtC.at (by decide +kernel) ⟨G.rv_cat _, trivial⟩ (Nat.le_of_ble_eq_true rfl) (ksX2_init x0 h)
/-! X2_lettersIn -/
def kX2_lettersIn_20 (σ : Hp)  : Nat → Int32 → Int32 → Int32 → Option (Int32)
  | 0, _, _, _ => none
  | n + 1, x2, x3, x4 => if 6 ≤ x4 then some x2 else if x3 ≤ 0 then some x2 else if (x3 - x3 / 9 * 9) = 0 then some (-1) else kX2_lettersIn_20 σ n (x2 + 1) (x3 / 9) (x4 + 1)
def kX2_lettersIn (σ : Hp) (x0 : Nat) (x1 : Int32) : Option (Int32) := if x1 < 1 then some (-1) else if x1 ≤ 531440 then kX2_lettersIn_20 σ FU 0 x1 0 else some (-1)
set_option maxRecDepth 20000 in
theorem ksX2_lettersIn_20 {l : Launch} {G : Gt} {n0 u0 : Nat} {σ : Hp} {Z : Int32} (n : Nat) : ∀ (x2 : Int32) (x3 : Int32) (x4 : Int32), kX2_lettersIn_20 σ n x2 x3 x4 = some Z → GoC l G RX2 "lettersIn" cX2_lettersIn 5 (some .int) 0 0 n0 u0 (some (.int Z)) σ 20 [(2, .int x2), (3, .int x3), (4, .int x4)] [] σ := by
  induction n with
  | zero => intro x2 x3 x4 h; rw [kX2_lettersIn_20] at h; cases h
  | succ n ih =>
    intro x2 x3 x4 h
    rw [kX2_lettersIn_20] at h
    refine GoC.iload 2 dX2_lettersIn_20 rfl ?_
    refine GoC.bipush 6 dX2_lettersIn_22 (by decide) ?_
    refine GoC.icmp_ge 54 dX2_lettersIn_24 (by decide) h (fun h => ?_) (fun h => ?_)
    · refine GoC.iload_n 0 dX2_lettersIn_54 rfl ?_
      cases h
      exact GoC.iret dX2_lettersIn_55 rfl
    · refine GoC.iload_n 1 dX2_lettersIn_27 rfl ?_
      refine GoC.if_le 54 dX2_lettersIn_28 (by decide) h (fun h => ?_) (fun h => ?_)
      · refine GoC.iload_n 0 dX2_lettersIn_54 rfl ?_
        cases h
        exact GoC.iret dX2_lettersIn_55 rfl
      · refine GoC.iload_n 1 dX2_lettersIn_31 rfl ?_
        refine GoC.bipush 9 dX2_lettersIn_32 (by decide) ?_
        refine GoC.irem dX2_lettersIn_34 (by decide) ?_
        refine GoC.if_ne 40 dX2_lettersIn_35 (by decide) h (fun h => ?_) (fun h => ?_)
        · refine GoC.iload_n 1 dX2_lettersIn_40 rfl ?_
          refine GoC.bipush 9 dX2_lettersIn_41 (by decide) ?_
          refine GoC.idiv dX2_lettersIn_43 (by decide) ?_
          refine GoC.istore_n [(2, .int x2), (3, .int (x3 / 9)), (4, .int x4)] dX2_lettersIn_44 (by decide) rfl ?_
          refine GoC.iinc (w := 1) 0 [(2, .int (x2 + 1)), (3, .int (x3 / 9)), (4, .int x4)] dX2_lettersIn_45 rfl (by decide) (by decide) rfl ?_
          refine GoC.iinc (w := 1) 2 [(2, .int (x2 + 1)), (3, .int (x3 / 9)), (4, .int (x4 + 1))] dX2_lettersIn_48 rfl (by decide) (by decide) rfl ?_
          refine GoC.goto 20 dX2_lettersIn_51 (by decide) ?_
          exact ih _ _ _ h
        · refine GoC.iconst (-1) dX2_lettersIn_38 (by decide) ?_
          cases h
          exact GoC.iret dX2_lettersIn_39 rfl
set_option maxRecDepth 20000 in
theorem ksX2_lettersIn {l : Launch} {G : Gt} {n0 u0 : Nat} {σ : Hp} {Z : Int32} (x0 : Nat) (x1 : Int32) (h : kX2_lettersIn σ x0 x1 = some Z) : GoC l G RX2 "lettersIn" cX2_lettersIn 5 (some .int) 0 0 n0 u0 (some (.int Z)) σ 0 [(0, G.rv x0), (1, .int x1)] [] σ := by
  unfold kX2_lettersIn at h
  refine GoC.iload_n 1 dX2_lettersIn_0 rfl ?_
  refine GoC.iconst 1 dX2_lettersIn_1 (by decide) ?_
  refine GoC.icmp_lt 11 dX2_lettersIn_2 (by decide) h (fun h => ?_) (fun h => ?_)
  · refine GoC.iconst (-1) dX2_lettersIn_11 (by decide) ?_
    cases h
    exact GoC.iret dX2_lettersIn_12 rfl
  · refine GoC.iload_n 1 dX2_lettersIn_5 rfl ?_
    refine GoC.ldc (v := 531440) kn_X2_24 dX2_lettersIn_6 ?_
    refine GoC.icmp_le 13 dX2_lettersIn_8 (by decide) h (fun h => ?_) (fun h => ?_)
    · refine GoC.iconst 0 dX2_lettersIn_13 (by decide) ?_
      refine GoC.istore_n [(0, G.rv x0), (1, .int x1), (2, .int 0)] dX2_lettersIn_14 (by decide) rfl ?_
      refine GoC.iload_n 1 dX2_lettersIn_15 rfl ?_
      refine GoC.istore_n [(0, G.rv x0), (1, .int x1), (2, .int 0), (3, .int x1)] dX2_lettersIn_16 (by decide) rfl ?_
      refine GoC.iconst 0 dX2_lettersIn_17 (by decide) ?_
      refine GoC.istore [(0, G.rv x0), (1, .int x1), (2, .int 0), (3, .int x1), (4, .int 0)] dX2_lettersIn_18 (by decide) rfl ?_
      refine GoC.sub [2, 3, 4] rfl ?_
      exact ksX2_lettersIn_20 _ _ _ _ h
    · refine GoC.iconst (-1) dX2_lettersIn_11 (by decide) ?_
      cases h
      exact GoC.iret dX2_lettersIn_12 rfl
set_option maxRecDepth 20000 in
theorem ktX2_lettersIn {l : Launch} {G : Gt} {σ : Hp} (x0 : Nat) (x1 : Int32) : ∀ Z, kX2_lettersIn σ x0 x1 = some Z → MtC l G yX2_lettersIn cX2_lettersIn 5 (some .int) 0 0 [G.rv x0, .int x1] σ (some (.int Z)) σ := fun Z h => MtC.at (by decide +kernel) ⟨G.rv_cat _, rfl, trivial⟩ (Nat.le_of_ble_eq_true rfl) (ksX2_lettersIn x0 x1 h)
/-! X2_letterAt -/
def kX2_letterAt (σ : Hp) (x0 : Nat) (x1 : Int32) (x2 : Int32) : Option (Int32 × Hp) := (gfr σ 12 200 x0).bind (fun v1 => bd2 (kX2_spellOut σ x1 v1) (fun v2 σ3 => if x2 < 0 then some ((-1), σ3) else if v2 ≤ x2 then some ((-1), σ3) else (gfr σ3 12 200 x0).bind (fun v4 => (ald σ3 1 v4 x2).bind (fun v5 => some (v5, σ3)))))
set_option maxRecDepth 20000 in
theorem ksX2_letterAt {l : Launch} {G : Gt} {n0 u0 : Nat} {σ : Hp} {Z : Int32 × Hp} (x0 : Nat) (x1 : Int32) (x2 : Int32) (h : kX2_letterAt σ x0 x1 x2 = some Z) : GoC l G RX2 "letterAt" cX2_letterAt 4 (some .int) 1 24 n0 u0 (some (.int Z.1)) Z.2 0 [(0, G.rv x0), (1, .int x1), (2, .int x2)] [] σ := by
  unfold kX2_letterAt at h
  refine GoC.iload_n 1 dX2_letterAt_0 rfl ?_
  refine GC.aload_n 0 dX2_letterAt_1 rfl ?_
  refine GC.getr 2 0 rfl (by decide) (by decide) fw_X2_9 (Or.inl rfl) dX2_letterAt_2 h (fun v1 h => ?_)
  obtain ⟨v2, σ3, hq, h⟩ := bd2_some h
  refine GC.callsI (rest := []) [.int x1, G.rv v1] dX2_letterAt_5 kk_X2_25 km_X2_spellOut (ktX2_spellOut _ _ _ hq) rfl rfl (Nat.le_of_ble_eq_true rfl) (Nat.le_of_ble_eq_true rfl) trivial (Nat.le_of_ble_eq_true rfl) ?_
  refine GoC.istore_n [(0, G.rv x0), (1, .int x1), (2, .int x2), (3, .int v2)] dX2_letterAt_8 (by decide) rfl ?_
  refine GoC.iload_n 2 dX2_letterAt_9 rfl ?_
  refine GoC.if_lt 27 dX2_letterAt_10 (by decide) h (fun h => ?_) (fun h => ?_)
  · refine GoC.iconst (-1) dX2_letterAt_27 (by decide) ?_
    cases h
    exact GoC.iret dX2_letterAt_28 rfl
  · refine GoC.iload_n 2 dX2_letterAt_13 rfl ?_
    refine GoC.iload_n 3 dX2_letterAt_14 rfl ?_
    refine GoC.icmp_ge 27 dX2_letterAt_15 (by decide) h (fun h => ?_) (fun h => ?_)
    · refine GoC.iconst (-1) dX2_letterAt_27 (by decide) ?_
      cases h
      exact GoC.iret dX2_letterAt_28 rfl
    · refine GC.aload_n 0 dX2_letterAt_18 rfl ?_
      refine GC.getr 2 0 rfl (by decide) (by decide) fw_X2_9 (Or.inl rfl) dX2_letterAt_19 h (fun v4 h => ?_)
      refine GoC.iload_n 2 dX2_letterAt_22 rfl ?_
      refine GC.iald dX2_letterAt_23 h (fun v5 h => ?_)
      refine GoC.goto 28 dX2_letterAt_24 (by decide) ?_
      cases h
      exact GoC.iret dX2_letterAt_28 rfl
set_option maxRecDepth 20000 in
theorem ktX2_letterAt {l : Launch} {G : Gt} {σ : Hp} (x0 : Nat) (x1 : Int32) (x2 : Int32) : ∀ Z, kX2_letterAt σ x0 x1 x2 = some Z → MtC l G yX2_letterAt cX2_letterAt 4 (some .int) 1 24 [G.rv x0, .int x1, .int x2] σ (some (.int Z.1)) Z.2 := fun Z h => MtC.at (by decide +kernel) ⟨G.rv_cat _, rfl, rfl, trivial⟩ (Nat.le_of_ble_eq_true rfl) (ksX2_letterAt x0 x1 x2 h)
/-! X3_init -/
def kX3_init (σ : Hp) (x0 : Nat) : Option (Hp) := (nz x0).bind (fun _ => (pfz σ 13 300 x0 1).bind (fun σ1 => (pfi σ1 13 301 x0 (-1)).bind (fun σ2 => bd2 (nwA σ2 1 7) (fun v3 σ4 => (pfr σ4 13 303 x0 v3).bind (fun σ5 => bd2 (nwA σ5 1 7) (fun v6 σ7 => (pfr σ7 13 304 x0 v6).bind (fun σ8 => bd2 (nwA σ8 1 7) (fun v9 σ10 => (pfr σ10 13 305 x0 v9).bind (fun σ11 => some σ11)))))))))
set_option maxRecDepth 20000 in
theorem ksX3_init {l : Launch} {G : Gt} {n0 u0 : Nat} {σ : Hp} {Z : Hp} (x0 : Nat) (h : kX3_init σ x0 = some Z) : GoC l G RX3 "<init>" cX3_init 1 none 1 20 n0 u0 none Z 0 [(0, G.rv x0)] [] σ := by
  unfold kX3_init at h
  refine GC.aload_n 0 dX3_init_0 rfl ?_
  obtain ⟨_, h0, h⟩ := Option.bind_eq_some_iff.mp h
  refine GC.oinit (nz_ne h0) oi_X3_3 oi_inst oi_code dX3_init_1 (Nat.le_of_ble_eq_true rfl) trivial (Nat.le_of_ble_eq_true rfl) ?_
  refine GC.aload_n 0 dX3_init_4 rfl ?_
  refine GoC.iconst 1 dX3_init_5 (by decide) ?_
  refine GC.putz 3 0 rfl (by decide) (by decide) (rfl) fw_X3_9 (Or.inl rfl) (Or.inl rfl) dX3_init_6 h (fun σ1 h => ?_)
  refine GC.aload_n 0 dX3_init_9 rfl ?_
  refine GoC.iconst (-1) dX3_init_10 (by decide) ?_
  refine GC.puti 3 1 rfl (by decide) (by decide) (rfl) fw_X3_15 (Or.inl rfl) (Or.inl rfl) dX3_init_11 h (fun σ2 h => ?_)
  refine GC.aload_n 0 dX3_init_14 rfl ?_
  refine GoC.bipush 7 dX3_init_15 (by decide) ?_
  refine GC.newI ac_int dX3_init_17 h (fun v3 σ4 h => ?_)
  refine GC.putr 3 3 rfl (by decide) (by decide) (Or.inr ⟨_, rfl⟩) fw_X3_19 (Or.inl rfl) (Or.inr ⟨rfl, rfl, rfl⟩) dX3_init_19 h (fun σ5 h => ?_)
  refine GC.aload_n 0 dX3_init_22 rfl ?_
  refine GoC.bipush 7 dX3_init_23 (by decide) ?_
  refine GC.newI ac_int dX3_init_25 h (fun v6 σ7 h => ?_)
  refine GC.putr 3 4 rfl (by decide) (by decide) (Or.inr ⟨_, rfl⟩) fw_X3_23 (Or.inl rfl) (Or.inr ⟨rfl, rfl, rfl⟩) dX3_init_27 h (fun σ8 h => ?_)
  refine GC.aload_n 0 dX3_init_30 rfl ?_
  refine GoC.bipush 7 dX3_init_31 (by decide) ?_
  refine GC.newI ac_int dX3_init_33 h (fun v9 σ10 h => ?_)
  refine GC.putr 3 5 rfl (by decide) (by decide) (Or.inr ⟨_, rfl⟩) fw_X3_26 (Or.inl rfl) (Or.inr ⟨rfl, rfl, rfl⟩) dX3_init_35 h (fun σ11 h => ?_)
  cases h
  exact GoC.vret dX3_init_38 rfl
set_option maxRecDepth 20000 in
theorem ktX3_init {l : Launch} {G : Gt} {σ : Hp} (x0 : Nat) : ∀ Z, kX3_init σ x0 = some Z → MtC l G yX3_init cX3_init 1 none 1 20 [G.rv x0] σ none Z := fun Z h => MtC.at (by decide +kernel) ⟨G.rv_cat _, trivial⟩ (Nat.le_of_ble_eq_true rfl) (ksX3_init x0 h)
/-! X3_empty -/
def kX3_empty (σ : Hp) (x0 : Nat) (x1 : Int32) : Option (Hp) := (pfz σ 13 300 x0 x1).bind (fun σ1 => (pfi σ1 13 301 x0 (-1)).bind (fun σ2 => (pfi σ2 13 302 x0 0).bind (fun σ3 => some σ3)))
set_option maxRecDepth 20000 in
theorem ksX3_empty {l : Launch} {G : Gt} {n0 u0 : Nat} {σ : Hp} {Z : Hp} (x0 : Nat) (x1 : Int32) (h : kX3_empty σ x0 x1 = some Z) : GoC l G RX3 "empty" cX3_empty 2 none 0 0 n0 u0 none Z 0 [(0, G.rv x0), (1, .int x1)] [] σ := by
  unfold kX3_empty at h
  refine GC.aload_n 0 dX3_empty_0 rfl ?_
  refine GoC.iload_n 1 dX3_empty_1 rfl ?_
  refine GC.putz 3 0 rfl (by decide) (by decide) (rfl) fw_X3_9 (Or.inl rfl) (Or.inl rfl) dX3_empty_2 h (fun σ1 h => ?_)
  refine GC.aload_n 0 dX3_empty_5 rfl ?_
  refine GoC.iconst (-1) dX3_empty_6 (by decide) ?_
  refine GC.puti 3 1 rfl (by decide) (by decide) (rfl) fw_X3_15 (Or.inl rfl) (Or.inl rfl) dX3_empty_7 h (fun σ2 h => ?_)
  refine GC.aload_n 0 dX3_empty_10 rfl ?_
  refine GoC.iconst 0 dX3_empty_11 (by decide) ?_
  refine GC.puti 3 2 rfl (by decide) (by decide) (rfl) fw_X3_29 (Or.inl rfl) (Or.inl rfl) dX3_empty_12 h (fun σ3 h => ?_)
  cases h
  exact GoC.vret dX3_empty_15 rfl
set_option maxRecDepth 20000 in
theorem ktX3_empty {l : Launch} {G : Gt} {σ : Hp} (x0 : Nat) (x1 : Int32) : ∀ Z, kX3_empty σ x0 x1 = some Z → MtC l G yX3_empty cX3_empty 2 none 0 0 [G.rv x0, .int x1] σ none Z := fun Z h => MtC.at (by decide +kernel) ⟨G.rv_cat _, rfl, trivial⟩ (Nat.le_of_ble_eq_true rfl) (ksX3_empty x0 x1 h)
/-! X3_insertEntry -/
def kX3_insertEntry (σ : Hp) (x0 : Nat) (x1 : Int32) (x2 : Int32) (x3 : Int32) (x4 : Int32) : Option (Hp) := (gfi σ 13 302 x0).bind (fun v1 => if 7 ≤ v1 then some σ else if x1 < 0 then some σ else (gfi σ 13 302 x0).bind (fun v2 => if x1 ≤ v2 then (gfr σ 13 303 x0).bind (fun v3 => (gfr σ 13 303 x0).bind (fun v4 => (gfi σ 13 302 x0).bind (fun v5 => (cpI σ v3 x1 v4 (x1 + 1) (v5 - x1)).bind (fun σ6 => (gfr σ6 13 304 x0).bind (fun v7 => (gfr σ6 13 304 x0).bind (fun v8 => (gfi σ6 13 302 x0).bind (fun v9 => (cpI σ6 v7 x1 v8 (x1 + 1) (v9 - x1)).bind (fun σ10 => (gfr σ10 13 305 x0).bind (fun v11 => (gfr σ10 13 305 x0).bind (fun v12 => (gfi σ10 13 302 x0).bind (fun v13 => (cpI σ10 v11 x1 v12 (x1 + 1) (v13 - x1)).bind (fun σ14 => (gfr σ14 13 303 x0).bind (fun v15 => (ast σ14 1 v15 x1 x2).bind (fun σ16 => (gfr σ16 13 304 x0).bind (fun v17 => (ast σ16 1 v17 x1 x3).bind (fun σ18 => (gfr σ18 13 305 x0).bind (fun v19 => (ast σ18 1 v19 x1 x4).bind (fun σ20 => (gfi σ20 13 302 x0).bind (fun v21 => (pfi σ20 13 302 x0 (v21 + 1)).bind (fun σ22 => some σ22)))))))))))))))))))) else some σ))
set_option maxRecDepth 20000 in
theorem ksX3_insertEntry {l : Launch} {G : Gt} {n0 u0 : Nat} {σ : Hp} {Z : Hp} (x0 : Nat) (x1 : Int32) (x2 : Int32) (x3 : Int32) (x4 : Int32) (h : kX3_insertEntry σ x0 x1 x2 x3 x4 = some Z) : GoC l G RX3 "insertEntry" cX3_insertEntry 5 none 1 48 n0 u0 none Z 0 [(0, G.rv x0), (1, .int x1), (2, .int x2), (3, .int x3), (4, .int x4)] [] σ := by
  unfold kX3_insertEntry at h
  refine GC.aload_n 0 dX3_insertEntry_0 rfl ?_
  refine GC.geti 3 2 rfl (by decide) (by decide) fw_X3_29 (Or.inl rfl) dX3_insertEntry_1 h (fun v1 h => ?_)
  refine GoC.bipush 7 dX3_insertEntry_4 (by decide) ?_
  refine GoC.icmp_ge 21 dX3_insertEntry_6 (by decide) h (fun h => ?_) (fun h => ?_)
  · cases h
    exact GoC.vret dX3_insertEntry_21 rfl
  · refine GoC.iload_n 1 dX3_insertEntry_9 rfl ?_
    refine GoC.if_lt 21 dX3_insertEntry_10 (by decide) h (fun h => ?_) (fun h => ?_)
    · cases h
      exact GoC.vret dX3_insertEntry_21 rfl
    · refine GoC.iload_n 1 dX3_insertEntry_13 rfl ?_
      refine GC.aload_n 0 dX3_insertEntry_14 rfl ?_
      refine GC.geti 3 2 rfl (by decide) (by decide) fw_X3_29 (Or.inl rfl) dX3_insertEntry_15 h (fun v2 h => ?_)
      refine GoC.icmp_le 22 dX3_insertEntry_18 (by decide) h (fun h => ?_) (fun h => ?_)
      · refine GC.aload_n 0 dX3_insertEntry_22 rfl ?_
        refine GC.getr 3 3 rfl (by decide) (by decide) fw_X3_19 (Or.inl rfl) dX3_insertEntry_23 h (fun v3 h => ?_)
        refine GoC.iload_n 1 dX3_insertEntry_26 rfl ?_
        refine GC.aload_n 0 dX3_insertEntry_27 rfl ?_
        refine GC.getr 3 3 rfl (by decide) (by decide) fw_X3_19 (Or.inl rfl) dX3_insertEntry_28 h (fun v4 h => ?_)
        refine GoC.iload_n 1 dX3_insertEntry_31 rfl ?_
        refine GoC.iconst 1 dX3_insertEntry_32 (by decide) ?_
        refine GoC.iadd dX3_insertEntry_33 ?_
        refine GC.aload_n 0 dX3_insertEntry_34 rfl ?_
        refine GC.geti 3 2 rfl (by decide) (by decide) fw_X3_29 (Or.inl rfl) dX3_insertEntry_35 h (fun v5 h => ?_)
        refine GoC.iload_n 1 dX3_insertEntry_38 rfl ?_
        refine GoC.isub dX3_insertEntry_39 ?_
        refine GC.copyI ac_X3_32 ac_nat ac_stat ac_ini dX3_insertEntry_40 (Nat.le_of_ble_eq_true rfl) trivial (Nat.le_of_ble_eq_true (by decide)) h (fun σ6 h => ?_)
        refine GC.aload_n 0 dX3_insertEntry_43 rfl ?_
        refine GC.getr 3 4 rfl (by decide) (by decide) fw_X3_23 (Or.inl rfl) dX3_insertEntry_44 h (fun v7 h => ?_)
        refine GoC.iload_n 1 dX3_insertEntry_47 rfl ?_
        refine GC.aload_n 0 dX3_insertEntry_48 rfl ?_
        refine GC.getr 3 4 rfl (by decide) (by decide) fw_X3_23 (Or.inl rfl) dX3_insertEntry_49 h (fun v8 h => ?_)
        refine GoC.iload_n 1 dX3_insertEntry_52 rfl ?_
        refine GoC.iconst 1 dX3_insertEntry_53 (by decide) ?_
        refine GoC.iadd dX3_insertEntry_54 ?_
        refine GC.aload_n 0 dX3_insertEntry_55 rfl ?_
        refine GC.geti 3 2 rfl (by decide) (by decide) fw_X3_29 (Or.inl rfl) dX3_insertEntry_56 h (fun v9 h => ?_)
        refine GoC.iload_n 1 dX3_insertEntry_59 rfl ?_
        refine GoC.isub dX3_insertEntry_60 ?_
        refine GC.copyI ac_X3_32 ac_nat ac_stat ac_ini dX3_insertEntry_61 (Nat.le_of_ble_eq_true rfl) trivial (Nat.le_of_ble_eq_true (by decide)) h (fun σ10 h => ?_)
        refine GC.aload_n 0 dX3_insertEntry_64 rfl ?_
        refine GC.getr 3 5 rfl (by decide) (by decide) fw_X3_26 (Or.inl rfl) dX3_insertEntry_65 h (fun v11 h => ?_)
        refine GoC.iload_n 1 dX3_insertEntry_68 rfl ?_
        refine GC.aload_n 0 dX3_insertEntry_69 rfl ?_
        refine GC.getr 3 5 rfl (by decide) (by decide) fw_X3_26 (Or.inl rfl) dX3_insertEntry_70 h (fun v12 h => ?_)
        refine GoC.iload_n 1 dX3_insertEntry_73 rfl ?_
        refine GoC.iconst 1 dX3_insertEntry_74 (by decide) ?_
        refine GoC.iadd dX3_insertEntry_75 ?_
        refine GC.aload_n 0 dX3_insertEntry_76 rfl ?_
        refine GC.geti 3 2 rfl (by decide) (by decide) fw_X3_29 (Or.inl rfl) dX3_insertEntry_77 h (fun v13 h => ?_)
        refine GoC.iload_n 1 dX3_insertEntry_80 rfl ?_
        refine GoC.isub dX3_insertEntry_81 ?_
        refine GC.copyI ac_X3_32 ac_nat ac_stat ac_ini dX3_insertEntry_82 (Nat.le_of_ble_eq_true rfl) trivial (Nat.le_of_ble_eq_true (by decide)) h (fun σ14 h => ?_)
        refine GC.aload_n 0 dX3_insertEntry_85 rfl ?_
        refine GC.getr 3 3 rfl (by decide) (by decide) fw_X3_19 (Or.inl rfl) dX3_insertEntry_86 h (fun v15 h => ?_)
        refine GoC.iload_n 1 dX3_insertEntry_89 rfl ?_
        refine GoC.iload_n 2 dX3_insertEntry_90 rfl ?_
        refine GC.iast dX3_insertEntry_91 h (fun σ16 h => ?_)
        refine GC.aload_n 0 dX3_insertEntry_92 rfl ?_
        refine GC.getr 3 4 rfl (by decide) (by decide) fw_X3_23 (Or.inl rfl) dX3_insertEntry_93 h (fun v17 h => ?_)
        refine GoC.iload_n 1 dX3_insertEntry_96 rfl ?_
        refine GoC.iload_n 3 dX3_insertEntry_97 rfl ?_
        refine GC.iast dX3_insertEntry_98 h (fun σ18 h => ?_)
        refine GC.aload_n 0 dX3_insertEntry_99 rfl ?_
        refine GC.getr 3 5 rfl (by decide) (by decide) fw_X3_26 (Or.inl rfl) dX3_insertEntry_100 h (fun v19 h => ?_)
        refine GoC.iload_n 1 dX3_insertEntry_103 rfl ?_
        refine GoC.iload 4 dX3_insertEntry_104 rfl ?_
        refine GC.iast dX3_insertEntry_106 h (fun σ20 h => ?_)
        refine GC.aload_n 0 dX3_insertEntry_107 rfl ?_
        refine GoC.dup dX3_insertEntry_108 (G.rv_cat _) ?_
        refine GC.geti 3 2 rfl (by decide) (by decide) fw_X3_29 (Or.inl rfl) dX3_insertEntry_109 h (fun v21 h => ?_)
        refine GoC.iconst 1 dX3_insertEntry_112 (by decide) ?_
        refine GoC.iadd dX3_insertEntry_113 ?_
        refine GC.puti 3 2 rfl (by decide) (by decide) (rfl) fw_X3_29 (Or.inl rfl) (Or.inl rfl) dX3_insertEntry_114 h (fun σ22 h => ?_)
        cases h
        exact GoC.vret dX3_insertEntry_117 rfl
      · cases h
        exact GoC.vret dX3_insertEntry_21 rfl
set_option maxRecDepth 20000 in
theorem ktX3_insertEntry {l : Launch} {G : Gt} {σ : Hp} (x0 : Nat) (x1 : Int32) (x2 : Int32) (x3 : Int32) (x4 : Int32) : ∀ Z, kX3_insertEntry σ x0 x1 x2 x3 x4 = some Z → MtC l G yX3_insertEntry cX3_insertEntry 5 none 1 48 [G.rv x0, .int x1, .int x2, .int x3, .int x4] σ none Z := fun Z h => MtC.at (by decide +kernel) ⟨G.rv_cat _, rfl, rfl, rfl, rfl, trivial⟩ (Nat.le_of_ble_eq_true rfl) (ksX3_insertEntry x0 x1 x2 x3 x4 h)
/-! X3_setEntry -/
def kX3_setEntry (σ : Hp) (x0 : Nat) (x1 : Int32) (x2 : Int32) (x3 : Int32) (x4 : Int32) : Option (Hp) := (gfr σ 13 303 x0).bind (fun v1 => (ast σ 1 v1 x1 x2).bind (fun σ2 => (gfr σ2 13 304 x0).bind (fun v3 => (ast σ2 1 v3 x1 x3).bind (fun σ4 => (gfr σ4 13 305 x0).bind (fun v5 => (ast σ4 1 v5 x1 x4).bind (fun σ6 => some σ6))))))
set_option maxRecDepth 20000 in
theorem ksX3_setEntry {l : Launch} {G : Gt} {n0 u0 : Nat} {σ : Hp} {Z : Hp} (x0 : Nat) (x1 : Int32) (x2 : Int32) (x3 : Int32) (x4 : Int32) (h : kX3_setEntry σ x0 x1 x2 x3 x4 = some Z) : GoC l G RX3 "setEntry" cX3_setEntry 5 none 0 0 n0 u0 none Z 0 [(0, G.rv x0), (1, .int x1), (2, .int x2), (3, .int x3), (4, .int x4)] [] σ := by
  unfold kX3_setEntry at h
  refine GC.aload_n 0 dX3_setEntry_0 rfl ?_
  refine GC.getr 3 3 rfl (by decide) (by decide) fw_X3_19 (Or.inl rfl) dX3_setEntry_1 h (fun v1 h => ?_)
  refine GoC.iload_n 1 dX3_setEntry_4 rfl ?_
  refine GoC.iload_n 2 dX3_setEntry_5 rfl ?_
  refine GC.iast dX3_setEntry_6 h (fun σ2 h => ?_)
  refine GC.aload_n 0 dX3_setEntry_7 rfl ?_
  refine GC.getr 3 4 rfl (by decide) (by decide) fw_X3_23 (Or.inl rfl) dX3_setEntry_8 h (fun v3 h => ?_)
  refine GoC.iload_n 1 dX3_setEntry_11 rfl ?_
  refine GoC.iload_n 3 dX3_setEntry_12 rfl ?_
  refine GC.iast dX3_setEntry_13 h (fun σ4 h => ?_)
  refine GC.aload_n 0 dX3_setEntry_14 rfl ?_
  refine GC.getr 3 5 rfl (by decide) (by decide) fw_X3_26 (Or.inl rfl) dX3_setEntry_15 h (fun v5 h => ?_)
  refine GoC.iload_n 1 dX3_setEntry_18 rfl ?_
  refine GoC.iload 4 dX3_setEntry_19 rfl ?_
  refine GC.iast dX3_setEntry_21 h (fun σ6 h => ?_)
  cases h
  exact GoC.vret dX3_setEntry_22 rfl
set_option maxRecDepth 20000 in
theorem ktX3_setEntry {l : Launch} {G : Gt} {σ : Hp} (x0 : Nat) (x1 : Int32) (x2 : Int32) (x3 : Int32) (x4 : Int32) : ∀ Z, kX3_setEntry σ x0 x1 x2 x3 x4 = some Z → MtC l G yX3_setEntry cX3_setEntry 5 none 0 0 [G.rv x0, .int x1, .int x2, .int x3, .int x4] σ none Z := fun Z h => MtC.at (by decide +kernel) ⟨G.rv_cat _, rfl, rfl, rfl, rfl, trivial⟩ (Nat.le_of_ble_eq_true rfl) (ksX3_setEntry x0 x1 x2 x3 x4 h)
/-! X3_removeEntry -/
def kX3_removeEntry (σ : Hp) (x0 : Nat) (x1 : Int32) : Option (Hp) := if x1 < 0 then some σ else (gfi σ 13 302 x0).bind (fun v1 => if x1 < v1 then (gfr σ 13 303 x0).bind (fun v2 => (gfr σ 13 303 x0).bind (fun v3 => (gfi σ 13 302 x0).bind (fun v4 => (cpI σ v2 (x1 + 1) v3 x1 ((v4 - x1) - 1)).bind (fun σ5 => (gfr σ5 13 304 x0).bind (fun v6 => (gfr σ5 13 304 x0).bind (fun v7 => (gfi σ5 13 302 x0).bind (fun v8 => (cpI σ5 v6 (x1 + 1) v7 x1 ((v8 - x1) - 1)).bind (fun σ9 => (gfr σ9 13 305 x0).bind (fun v10 => (gfr σ9 13 305 x0).bind (fun v11 => (gfi σ9 13 302 x0).bind (fun v12 => (cpI σ9 v10 (x1 + 1) v11 x1 ((v12 - x1) - 1)).bind (fun σ13 => (gfi σ13 13 302 x0).bind (fun v14 => (pfi σ13 13 302 x0 (v14 - 1)).bind (fun σ15 => some σ15)))))))))))))) else some σ)
set_option maxRecDepth 20000 in
theorem ksX3_removeEntry {l : Launch} {G : Gt} {n0 u0 : Nat} {σ : Hp} {Z : Hp} (x0 : Nat) (x1 : Int32) (h : kX3_removeEntry σ x0 x1 = some Z) : GoC l G RX3 "removeEntry" cX3_removeEntry 2 none 1 48 n0 u0 none Z 0 [(0, G.rv x0), (1, .int x1)] [] σ := by
  unfold kX3_removeEntry at h
  refine GoC.iload_n 1 dX3_removeEntry_0 rfl ?_
  refine GoC.if_lt 12 dX3_removeEntry_1 (by decide) h (fun h => ?_) (fun h => ?_)
  · cases h
    exact GoC.vret dX3_removeEntry_12 rfl
  · refine GoC.iload_n 1 dX3_removeEntry_4 rfl ?_
    refine GC.aload_n 0 dX3_removeEntry_5 rfl ?_
    refine GC.geti 3 2 rfl (by decide) (by decide) fw_X3_29 (Or.inl rfl) dX3_removeEntry_6 h (fun v1 h => ?_)
    refine GoC.icmp_lt 13 dX3_removeEntry_9 (by decide) h (fun h => ?_) (fun h => ?_)
    · refine GC.aload_n 0 dX3_removeEntry_13 rfl ?_
      refine GC.getr 3 3 rfl (by decide) (by decide) fw_X3_19 (Or.inl rfl) dX3_removeEntry_14 h (fun v2 h => ?_)
      refine GoC.iload_n 1 dX3_removeEntry_17 rfl ?_
      refine GoC.iconst 1 dX3_removeEntry_18 (by decide) ?_
      refine GoC.iadd dX3_removeEntry_19 ?_
      refine GC.aload_n 0 dX3_removeEntry_20 rfl ?_
      refine GC.getr 3 3 rfl (by decide) (by decide) fw_X3_19 (Or.inl rfl) dX3_removeEntry_21 h (fun v3 h => ?_)
      refine GoC.iload_n 1 dX3_removeEntry_24 rfl ?_
      refine GC.aload_n 0 dX3_removeEntry_25 rfl ?_
      refine GC.geti 3 2 rfl (by decide) (by decide) fw_X3_29 (Or.inl rfl) dX3_removeEntry_26 h (fun v4 h => ?_)
      refine GoC.iload_n 1 dX3_removeEntry_29 rfl ?_
      refine GoC.isub dX3_removeEntry_30 ?_
      refine GoC.iconst 1 dX3_removeEntry_31 (by decide) ?_
      refine GoC.isub dX3_removeEntry_32 ?_
      refine GC.copyI ac_X3_32 ac_nat ac_stat ac_ini dX3_removeEntry_33 (Nat.le_of_ble_eq_true rfl) trivial (Nat.le_of_ble_eq_true (by decide)) h (fun σ5 h => ?_)
      refine GC.aload_n 0 dX3_removeEntry_36 rfl ?_
      refine GC.getr 3 4 rfl (by decide) (by decide) fw_X3_23 (Or.inl rfl) dX3_removeEntry_37 h (fun v6 h => ?_)
      refine GoC.iload_n 1 dX3_removeEntry_40 rfl ?_
      refine GoC.iconst 1 dX3_removeEntry_41 (by decide) ?_
      refine GoC.iadd dX3_removeEntry_42 ?_
      refine GC.aload_n 0 dX3_removeEntry_43 rfl ?_
      refine GC.getr 3 4 rfl (by decide) (by decide) fw_X3_23 (Or.inl rfl) dX3_removeEntry_44 h (fun v7 h => ?_)
      refine GoC.iload_n 1 dX3_removeEntry_47 rfl ?_
      refine GC.aload_n 0 dX3_removeEntry_48 rfl ?_
      refine GC.geti 3 2 rfl (by decide) (by decide) fw_X3_29 (Or.inl rfl) dX3_removeEntry_49 h (fun v8 h => ?_)
      refine GoC.iload_n 1 dX3_removeEntry_52 rfl ?_
      refine GoC.isub dX3_removeEntry_53 ?_
      refine GoC.iconst 1 dX3_removeEntry_54 (by decide) ?_
      refine GoC.isub dX3_removeEntry_55 ?_
      refine GC.copyI ac_X3_32 ac_nat ac_stat ac_ini dX3_removeEntry_56 (Nat.le_of_ble_eq_true rfl) trivial (Nat.le_of_ble_eq_true (by decide)) h (fun σ9 h => ?_)
      refine GC.aload_n 0 dX3_removeEntry_59 rfl ?_
      refine GC.getr 3 5 rfl (by decide) (by decide) fw_X3_26 (Or.inl rfl) dX3_removeEntry_60 h (fun v10 h => ?_)
      refine GoC.iload_n 1 dX3_removeEntry_63 rfl ?_
      refine GoC.iconst 1 dX3_removeEntry_64 (by decide) ?_
      refine GoC.iadd dX3_removeEntry_65 ?_
      refine GC.aload_n 0 dX3_removeEntry_66 rfl ?_
      refine GC.getr 3 5 rfl (by decide) (by decide) fw_X3_26 (Or.inl rfl) dX3_removeEntry_67 h (fun v11 h => ?_)
      refine GoC.iload_n 1 dX3_removeEntry_70 rfl ?_
      refine GC.aload_n 0 dX3_removeEntry_71 rfl ?_
      refine GC.geti 3 2 rfl (by decide) (by decide) fw_X3_29 (Or.inl rfl) dX3_removeEntry_72 h (fun v12 h => ?_)
      refine GoC.iload_n 1 dX3_removeEntry_75 rfl ?_
      refine GoC.isub dX3_removeEntry_76 ?_
      refine GoC.iconst 1 dX3_removeEntry_77 (by decide) ?_
      refine GoC.isub dX3_removeEntry_78 ?_
      refine GC.copyI ac_X3_32 ac_nat ac_stat ac_ini dX3_removeEntry_79 (Nat.le_of_ble_eq_true rfl) trivial (Nat.le_of_ble_eq_true (by decide)) h (fun σ13 h => ?_)
      refine GC.aload_n 0 dX3_removeEntry_82 rfl ?_
      refine GoC.dup dX3_removeEntry_83 (G.rv_cat _) ?_
      refine GC.geti 3 2 rfl (by decide) (by decide) fw_X3_29 (Or.inl rfl) dX3_removeEntry_84 h (fun v14 h => ?_)
      refine GoC.iconst 1 dX3_removeEntry_87 (by decide) ?_
      refine GoC.isub dX3_removeEntry_88 ?_
      refine GC.puti 3 2 rfl (by decide) (by decide) (rfl) fw_X3_29 (Or.inl rfl) (Or.inl rfl) dX3_removeEntry_89 h (fun σ15 h => ?_)
      cases h
      exact GoC.vret dX3_removeEntry_92 rfl
    · cases h
      exact GoC.vret dX3_removeEntry_12 rfl
set_option maxRecDepth 20000 in
theorem ktX3_removeEntry {l : Launch} {G : Gt} {σ : Hp} (x0 : Nat) (x1 : Int32) : ∀ Z, kX3_removeEntry σ x0 x1 = some Z → MtC l G yX3_removeEntry cX3_removeEntry 2 none 1 48 [G.rv x0, .int x1] σ none Z := fun Z h => MtC.at (by decide +kernel) ⟨G.rv_cat _, rfl, trivial⟩ (Nat.le_of_ble_eq_true rfl) (ksX3_removeEntry x0 x1 h)
/-! X3_placeIn -/
def kX3_placeIn_2 (σ : Hp)  : Nat → Nat → Int32 → Int32 → Option (Int32)
  | 0, _, _, _ => none
  | n + 1, x0, x1, x2 => (gfi σ 13 302 x0).bind (fun v1 => if v1 ≤ x2 then some (-1) else (gfr σ 13 303 x0).bind (fun v2 => (ald σ 1 v2 x2).bind (fun v3 => if v3 = x1 then some x2 else kX3_placeIn_2 σ n x0 x1 (x2 + 1))))
def kX3_placeIn (σ : Hp) (x0 : Nat) (x1 : Int32) : Option (Int32) := kX3_placeIn_2 σ FU x0 x1 0
set_option maxRecDepth 20000 in
theorem ksX3_placeIn_2 {l : Launch} {G : Gt} {n0 u0 : Nat} {σ : Hp} {Z : Int32} (n : Nat) : ∀ (x0 : Nat) (x1 : Int32) (x2 : Int32), kX3_placeIn_2 σ n x0 x1 x2 = some Z → GoC l G RX3 "placeIn" cX3_placeIn 3 (some .int) 0 0 n0 u0 (some (.int Z)) σ 2 [(0, G.rv x0), (1, .int x1), (2, .int x2)] [] σ := by
  induction n with
  | zero => intro x0 x1 x2 h; rw [kX3_placeIn_2] at h; cases h
  | succ n ih =>
    intro x0 x1 x2 h
    rw [kX3_placeIn_2] at h
    refine GoC.iload_n 2 dX3_placeIn_2 rfl ?_
    refine GC.aload_n 0 dX3_placeIn_3 rfl ?_
    refine GC.geti 3 2 rfl (by decide) (by decide) fw_X3_29 (Or.inl rfl) dX3_placeIn_4 h (fun v1 h => ?_)
    refine GoC.icmp_ge 28 dX3_placeIn_7 (by decide) h (fun h => ?_) (fun h => ?_)
    · refine GoC.iconst (-1) dX3_placeIn_28 (by decide) ?_
      cases h
      exact GoC.iret dX3_placeIn_29 rfl
    · refine GC.aload_n 0 dX3_placeIn_10 rfl ?_
      refine GC.getr 3 3 rfl (by decide) (by decide) fw_X3_19 (Or.inl rfl) dX3_placeIn_11 h (fun v2 h => ?_)
      refine GoC.iload_n 2 dX3_placeIn_14 rfl ?_
      refine GC.iald dX3_placeIn_15 h (fun v3 h => ?_)
      refine GoC.iload_n 1 dX3_placeIn_16 rfl ?_
      refine GoC.icmp_ne 22 dX3_placeIn_17 (by decide) h (fun h => ?_) (fun h => ?_)
      · refine GoC.iinc (w := 1) 2 [(0, G.rv x0), (1, .int x1), (2, .int (x2 + 1))] dX3_placeIn_22 rfl (by decide) (by decide) rfl ?_
        refine GoC.goto 2 dX3_placeIn_25 (by decide) ?_
        exact ih _ _ _ h
      · refine GoC.iload_n 2 dX3_placeIn_20 rfl ?_
        cases h
        exact GoC.iret dX3_placeIn_21 rfl
set_option maxRecDepth 20000 in
theorem ksX3_placeIn {l : Launch} {G : Gt} {n0 u0 : Nat} {σ : Hp} {Z : Int32} (x0 : Nat) (x1 : Int32) (h : kX3_placeIn σ x0 x1 = some Z) : GoC l G RX3 "placeIn" cX3_placeIn 3 (some .int) 0 0 n0 u0 (some (.int Z)) σ 0 [(0, G.rv x0), (1, .int x1)] [] σ := by
  unfold kX3_placeIn at h
  refine GoC.iconst 0 dX3_placeIn_0 (by decide) ?_
  refine GoC.istore_n [(0, G.rv x0), (1, .int x1), (2, .int 0)] dX3_placeIn_1 (by decide) rfl ?_
  exact ksX3_placeIn_2 _ _ _ _ h
set_option maxRecDepth 20000 in
theorem ktX3_placeIn {l : Launch} {G : Gt} {σ : Hp} (x0 : Nat) (x1 : Int32) : ∀ Z, kX3_placeIn σ x0 x1 = some Z → MtC l G yX3_placeIn cX3_placeIn 3 (some .int) 0 0 [G.rv x0, .int x1] σ (some (.int Z)) σ := fun Z h => MtC.at (by decide +kernel) ⟨G.rv_cat _, rfl, trivial⟩ (Nat.le_of_ble_eq_true rfl) (ksX3_placeIn x0 x1 h)
/-! X3_copyFrom -/
def kX3_copyFrom (σ : Hp) (x0 : Nat) (x1 : Nat) : Option (Hp) := (gfi σ 13 300 x1).bind (fun v1 => (pfz σ 13 300 x0 v1).bind (fun σ2 => (gfi σ2 13 301 x1).bind (fun v3 => (pfi σ2 13 301 x0 v3).bind (fun σ4 => (gfi σ4 13 302 x1).bind (fun v5 => (pfi σ4 13 302 x0 v5).bind (fun σ6 => (gfr σ6 13 303 x1).bind (fun v7 => (gfr σ6 13 303 x0).bind (fun v8 => (gfi σ6 13 302 x0).bind (fun v9 => (cpI σ6 v7 0 v8 0 v9).bind (fun σ10 => (gfr σ10 13 304 x1).bind (fun v11 => (gfr σ10 13 304 x0).bind (fun v12 => (gfi σ10 13 302 x0).bind (fun v13 => (cpI σ10 v11 0 v12 0 v13).bind (fun σ14 => (gfr σ14 13 305 x1).bind (fun v15 => (gfr σ14 13 305 x0).bind (fun v16 => (gfi σ14 13 302 x0).bind (fun v17 => (cpI σ14 v15 0 v16 0 v17).bind (fun σ18 => some σ18))))))))))))))))))
set_option maxRecDepth 20000 in
theorem ksX3_copyFrom {l : Launch} {G : Gt} {n0 u0 : Nat} {σ : Hp} {Z : Hp} (x0 : Nat) (x1 : Nat) (h : kX3_copyFrom σ x0 x1 = some Z) : GoC l G RX3 "copyFrom" cX3_copyFrom 2 none 1 48 n0 u0 none Z 0 [(0, G.rv x0), (1, G.rv x1)] [] σ := by
  unfold kX3_copyFrom at h
  refine GC.aload_n 0 dX3_copyFrom_0 rfl ?_
  refine GC.aload_n 1 dX3_copyFrom_1 rfl ?_
  refine GC.geti 3 0 rfl (by decide) (by decide) fw_X3_9 (Or.inl rfl) dX3_copyFrom_2 h (fun v1 h => ?_)
  refine GC.putz 3 0 rfl (by decide) (by decide) (rfl) fw_X3_9 (Or.inl rfl) (Or.inl rfl) dX3_copyFrom_5 h (fun σ2 h => ?_)
  refine GC.aload_n 0 dX3_copyFrom_8 rfl ?_
  refine GC.aload_n 1 dX3_copyFrom_9 rfl ?_
  refine GC.geti 3 1 rfl (by decide) (by decide) fw_X3_15 (Or.inl rfl) dX3_copyFrom_10 h (fun v3 h => ?_)
  refine GC.puti 3 1 rfl (by decide) (by decide) (rfl) fw_X3_15 (Or.inl rfl) (Or.inl rfl) dX3_copyFrom_13 h (fun σ4 h => ?_)
  refine GC.aload_n 0 dX3_copyFrom_16 rfl ?_
  refine GC.aload_n 1 dX3_copyFrom_17 rfl ?_
  refine GC.geti 3 2 rfl (by decide) (by decide) fw_X3_29 (Or.inl rfl) dX3_copyFrom_18 h (fun v5 h => ?_)
  refine GC.puti 3 2 rfl (by decide) (by decide) (rfl) fw_X3_29 (Or.inl rfl) (Or.inl rfl) dX3_copyFrom_21 h (fun σ6 h => ?_)
  refine GC.aload_n 1 dX3_copyFrom_24 rfl ?_
  refine GC.getr 3 3 rfl (by decide) (by decide) fw_X3_19 (Or.inl rfl) dX3_copyFrom_25 h (fun v7 h => ?_)
  refine GoC.iconst 0 dX3_copyFrom_28 (by decide) ?_
  refine GC.aload_n 0 dX3_copyFrom_29 rfl ?_
  refine GC.getr 3 3 rfl (by decide) (by decide) fw_X3_19 (Or.inl rfl) dX3_copyFrom_30 h (fun v8 h => ?_)
  refine GoC.iconst 0 dX3_copyFrom_33 (by decide) ?_
  refine GC.aload_n 0 dX3_copyFrom_34 rfl ?_
  refine GC.geti 3 2 rfl (by decide) (by decide) fw_X3_29 (Or.inl rfl) dX3_copyFrom_35 h (fun v9 h => ?_)
  refine GC.copyI ac_X3_32 ac_nat ac_stat ac_ini dX3_copyFrom_38 (Nat.le_of_ble_eq_true rfl) trivial (Nat.le_of_ble_eq_true (by decide)) h (fun σ10 h => ?_)
  refine GC.aload_n 1 dX3_copyFrom_41 rfl ?_
  refine GC.getr 3 4 rfl (by decide) (by decide) fw_X3_23 (Or.inl rfl) dX3_copyFrom_42 h (fun v11 h => ?_)
  refine GoC.iconst 0 dX3_copyFrom_45 (by decide) ?_
  refine GC.aload_n 0 dX3_copyFrom_46 rfl ?_
  refine GC.getr 3 4 rfl (by decide) (by decide) fw_X3_23 (Or.inl rfl) dX3_copyFrom_47 h (fun v12 h => ?_)
  refine GoC.iconst 0 dX3_copyFrom_50 (by decide) ?_
  refine GC.aload_n 0 dX3_copyFrom_51 rfl ?_
  refine GC.geti 3 2 rfl (by decide) (by decide) fw_X3_29 (Or.inl rfl) dX3_copyFrom_52 h (fun v13 h => ?_)
  refine GC.copyI ac_X3_32 ac_nat ac_stat ac_ini dX3_copyFrom_55 (Nat.le_of_ble_eq_true rfl) trivial (Nat.le_of_ble_eq_true (by decide)) h (fun σ14 h => ?_)
  refine GC.aload_n 1 dX3_copyFrom_58 rfl ?_
  refine GC.getr 3 5 rfl (by decide) (by decide) fw_X3_26 (Or.inl rfl) dX3_copyFrom_59 h (fun v15 h => ?_)
  refine GoC.iconst 0 dX3_copyFrom_62 (by decide) ?_
  refine GC.aload_n 0 dX3_copyFrom_63 rfl ?_
  refine GC.getr 3 5 rfl (by decide) (by decide) fw_X3_26 (Or.inl rfl) dX3_copyFrom_64 h (fun v16 h => ?_)
  refine GoC.iconst 0 dX3_copyFrom_67 (by decide) ?_
  refine GC.aload_n 0 dX3_copyFrom_68 rfl ?_
  refine GC.geti 3 2 rfl (by decide) (by decide) fw_X3_29 (Or.inl rfl) dX3_copyFrom_69 h (fun v17 h => ?_)
  refine GC.copyI ac_X3_32 ac_nat ac_stat ac_ini dX3_copyFrom_72 (Nat.le_of_ble_eq_true rfl) trivial (Nat.le_of_ble_eq_true (by decide)) h (fun σ18 h => ?_)
  cases h
  exact GoC.vret dX3_copyFrom_75 rfl
set_option maxRecDepth 20000 in
theorem ktX3_copyFrom {l : Launch} {G : Gt} {σ : Hp} (x0 : Nat) (x1 : Nat) : ∀ Z, kX3_copyFrom σ x0 x1 = some Z → MtC l G yX3_copyFrom cX3_copyFrom 2 none 1 48 [G.rv x0, G.rv x1] σ none Z := fun Z h => MtC.at (by decide +kernel) ⟨G.rv_cat _, G.rv_cat _, trivial⟩ (Nat.le_of_ble_eq_true rfl) (ksX3_copyFrom x0 x1 h)
/-! Jxa1e45_init_da8c8 -/
def kJxa1e45_init_da8c8 (σ : Hp) (x0 : Nat) : Option (Hp) := (nz x0).bind (fun _ => some σ)
set_option maxRecDepth 20000 in
theorem ksJxa1e45_init_da8c8 {l : Launch} {G : Gt} {n0 u0 : Nat} {σ : Hp} {Z : Hp} (x0 : Nat) (h : kJxa1e45_init_da8c8 σ x0 = some Z) : GoC l G RJxa1e45 "<init>" cJxa1e45_init_da8c8 1 none 1 20 n0 u0 none Z 0 [(0, G.rv x0)] [] σ := by
  unfold kJxa1e45_init_da8c8 at h
  refine GC.aload_n 0 dJxa1e45_init_da8c8_0 rfl ?_
  obtain ⟨_, h0, h⟩ := Option.bind_eq_some_iff.mp h
  refine GC.oinit (nz_ne h0) oi_Jxa1e45_1 oi_inst oi_code dJxa1e45_init_da8c8_1 (Nat.le_of_ble_eq_true rfl) trivial (Nat.le_of_ble_eq_true rfl) ?_
  cases h
  exact GoC.vret dJxa1e45_init_da8c8_4 rfl
set_option maxRecDepth 20000 in
theorem ktJxa1e45_init_da8c8 {l : Launch} {G : Gt} {σ : Hp} (x0 : Nat) : ∀ Z, kJxa1e45_init_da8c8 σ x0 = some Z → MtC l G yJxa1e45_init_da8c8 cJxa1e45_init_da8c8 1 none 1 20 [G.rv x0] σ none Z := fun Z h => MtC.at (by decide +kernel) ⟨G.rv_cat _, trivial⟩ (Nat.le_of_ble_eq_true rfl) (ksJxa1e45_init_da8c8 x0 h)
/-! Jxc12de_init_da8c8 -/
def kJxc12de_init_da8c8 (σ : Hp) (x0 : Nat) : Option (Hp) := (nz x0).bind (fun _ => (kJxa1e45_init_da8c8 σ x0).bind (fun σ1 => (pfi σ1 22 1200 x0 0).bind (fun σ2 => some σ2)))
set_option maxRecDepth 20000 in
theorem ksJxc12de_init_da8c8 {l : Launch} {G : Gt} {n0 u0 : Nat} {σ : Hp} {Z : Hp} (x0 : Nat) (h : kJxc12de_init_da8c8 σ x0 = some Z) : GoC l G RJxc12de "<init>" cJxc12de_init_da8c8 1 none 2 40 n0 u0 none Z 0 [(0, G.rv x0)] [] σ := by
  unfold kJxc12de_init_da8c8 at h
  refine GC.aload_n 0 dJxc12de_init_da8c8_0 rfl ?_
  obtain ⟨_, h0, h⟩ := Option.bind_eq_some_iff.mp h
  obtain ⟨σ1, hq, h⟩ := Option.bind_eq_some_iff.mp h
  refine GC.calliV (rest := []) (nz_ne h0) [] dJxc12de_init_da8c8_1 kk_Jxc12de_1 rfl km_Jxa1e45_init_da8c8 (ktJxa1e45_init_da8c8 _ _ hq) rfl rfl (Nat.le_of_ble_eq_true rfl) (Nat.le_of_ble_eq_true rfl) trivial (Nat.le_of_ble_eq_true rfl) ?_
  refine GC.aload_n 0 dJxc12de_init_da8c8_4 rfl ?_
  refine GoC.iconst 0 dJxc12de_init_da8c8_5 (by decide) ?_
  refine GC.puti 12 0 rfl (by decide) (by decide) (rfl) fw_Jxc12de_7 (Or.inl rfl) (Or.inl rfl) dJxc12de_init_da8c8_6 h (fun σ2 h => ?_)
  cases h
  exact GoC.vret dJxc12de_init_da8c8_9 rfl
set_option maxRecDepth 20000 in
theorem ktJxc12de_init_da8c8 {l : Launch} {G : Gt} {σ : Hp} (x0 : Nat) : ∀ Z, kJxc12de_init_da8c8 σ x0 = some Z → MtC l G yJxc12de_init_da8c8 cJxc12de_init_da8c8 1 none 2 40 [G.rv x0] σ none Z := fun Z h => MtC.at (by decide +kernel) ⟨G.rv_cat _, trivial⟩ (Nat.le_of_ble_eq_true rfl) (ksJxc12de_init_da8c8 x0 h)
/-! Jx4a65c_init_da8c8 -/
def kJx4a65c_init_da8c8 (σ : Hp) (x0 : Nat) : Option (Hp) := (nz x0).bind (fun _ => (kJxc12de_init_da8c8 σ x0).bind (fun σ1 => (pfr σ1 22 1201 x0 1).bind (fun σ2 => some σ2)))
set_option maxRecDepth 20000 in
theorem ksJx4a65c_init_da8c8 {l : Launch} {G : Gt} {n0 u0 : Nat} {σ : Hp} {Z : Hp} (x0 : Nat) (h : kJx4a65c_init_da8c8 σ x0 = some Z) : GoC l G RJx4a65c "<init>" cJx4a65c_init_da8c8 1 none 3 60 n0 u0 none Z 0 [(0, G.rv x0)] [] σ := by
  unfold kJx4a65c_init_da8c8 at h
  refine GC.aload_n 0 dJx4a65c_init_da8c8_0 rfl ?_
  obtain ⟨_, h0, h⟩ := Option.bind_eq_some_iff.mp h
  obtain ⟨σ1, hq, h⟩ := Option.bind_eq_some_iff.mp h
  refine GC.calliV (rest := []) (nz_ne h0) [] dJx4a65c_init_da8c8_1 kk_Jx4a65c_1 rfl km_Jxc12de_init_da8c8 (ktJxc12de_init_da8c8 _ _ hq) rfl rfl (Nat.le_of_ble_eq_true rfl) (Nat.le_of_ble_eq_true rfl) trivial (Nat.le_of_ble_eq_true rfl) ?_
  refine GC.aload_n 0 dJx4a65c_init_da8c8_4 rfl ?_
  refine GC.gets sw_Jx4a65c_39 dJx4a65c_init_da8c8_5 ?_
  refine GC.putr 12 1 rfl (by decide) (by decide) (Or.inr ⟨_, rfl⟩) fw_Jx4a65c_9 (Or.inl rfl) (Or.inl rfl) dJx4a65c_init_da8c8_8 h (fun σ2 h => ?_)
  cases h
  exact GoC.vret dJx4a65c_init_da8c8_11 rfl
set_option maxRecDepth 20000 in
theorem ktJx4a65c_init_da8c8 {l : Launch} {G : Gt} {σ : Hp} (x0 : Nat) : ∀ Z, kJx4a65c_init_da8c8 σ x0 = some Z → MtC l G yJx4a65c_init_da8c8 cJx4a65c_init_da8c8 1 none 3 60 [G.rv x0] σ none Z := fun Z h => MtC.at (by decide +kernel) ⟨G.rv_cat _, trivial⟩ (Nat.le_of_ble_eq_true rfl) (ksJx4a65c_init_da8c8 x0 h)
/-! J8_newLength_cabcc -/
def kJ8_newLength_cabcc_21 (σ : Hp)  (x0 : Int32) (x1 : Int32) : Option (Int32) := none
def kJ8_newLength_cabcc (σ : Hp) (x0 : Int32) (x1 : Int32) (x2 : Int32) : Option (Int32) := if (x0 + (if x1 < x2 then x2 else x1)) ≤ 0 then kJ8_newLength_cabcc_21 σ x0 x1 else if 2147483639 < (x0 + (if x1 < x2 then x2 else x1)) then kJ8_newLength_cabcc_21 σ x0 x1 else some (x0 + (if x1 < x2 then x2 else x1))
set_option maxRecDepth 20000 in
theorem ksJ8_newLength_cabcc_21 {l : Launch} {G : Gt} {n0 u0 : Nat} {σ : Hp} {Z : Int32} (x0 : Int32) (x1 : Int32) (h : kJ8_newLength_cabcc_21 σ x0 x1 = some Z) : GoC l G RJ8 "newLength" cJ8_newLength_cabcc 4 (some .int) 1 21 n0 u0 (some (.int Z)) σ 21 [(0, .int x0), (1, .int x1)] [] σ := by
  unfold kJ8_newLength_cabcc_21 at h
  refine GoC.iload_n 0 dJ8_newLength_cabcc_21 rfl ?_
  refine GoC.iload_n 1 dJ8_newLength_cabcc_22 rfl ?_
  cases h
set_option maxRecDepth 20000 in
theorem ksJ8_newLength_cabcc {l : Launch} {G : Gt} {n0 u0 : Nat} {σ : Hp} {Z : Int32} (x0 : Int32) (x1 : Int32) (x2 : Int32) (h : kJ8_newLength_cabcc σ x0 x1 x2 = some Z) : GoC l G RJ8 "newLength" cJ8_newLength_cabcc 4 (some .int) 1 21 n0 u0 (some (.int Z)) σ 0 [(0, .int x0), (1, .int x1), (2, .int x2)] [] σ := by
  unfold kJ8_newLength_cabcc at h
  refine GoC.iload_n 0 dJ8_newLength_cabcc_0 rfl ?_
  refine GoC.iload_n 1 dJ8_newLength_cabcc_1 rfl ?_
  refine GoC.iload_n 2 dJ8_newLength_cabcc_2 rfl ?_
  refine GC.mmax mm_J8_194 dJ8_newLength_cabcc_3 (Nat.le_of_ble_eq_true rfl) ⟨rfl, trivial⟩ (Nat.le_of_ble_eq_true rfl) ?_
  refine GoC.iadd dJ8_newLength_cabcc_6 ?_
  refine GoC.istore_n [(0, .int x0), (1, .int x1), (2, .int x2), (3, .int (x0 + (if x1 < x2 then x2 else x1)))] dJ8_newLength_cabcc_7 (by decide) rfl ?_
  refine GoC.iconst 0 dJ8_newLength_cabcc_8 (by decide) ?_
  refine GoC.iload_n 3 dJ8_newLength_cabcc_9 rfl ?_
  refine GoC.icmp_ge 21 dJ8_newLength_cabcc_10 (by decide) h (fun h => ?_) (fun h => ?_)
  · refine GoC.sub [0, 1] rfl ?_
    exact ksJ8_newLength_cabcc_21 _ _ h
  · refine GoC.iload_n 3 dJ8_newLength_cabcc_13 rfl ?_
    refine GoC.ldc (v := 2147483639) kn_J8_200 dJ8_newLength_cabcc_14 ?_
    refine GoC.icmp_gt 21 dJ8_newLength_cabcc_16 (by decide) h (fun h => ?_) (fun h => ?_)
    · refine GoC.sub [0, 1] rfl ?_
      exact ksJ8_newLength_cabcc_21 _ _ h
    · refine GoC.iload_n 3 dJ8_newLength_cabcc_19 rfl ?_
      cases h
      exact GoC.iret dJ8_newLength_cabcc_20 rfl
set_option maxRecDepth 20000 in
theorem ktJ8_newLength_cabcc {l : Launch} {G : Gt} {σ : Hp} (x0 : Int32) (x1 : Int32) (x2 : Int32) : ∀ Z, kJ8_newLength_cabcc σ x0 x1 x2 = some Z → MtC l G yJ8_newLength_cabcc cJ8_newLength_cabcc 4 (some .int) 1 21 [.int x0, .int x1, .int x2] σ (some (.int Z)) σ := fun Z h => MtC.at (by decide +kernel) ⟨rfl, rfl, rfl, trivial⟩ (Nat.le_of_ble_eq_true rfl) (ksJ8_newLength_cabcc x0 x1 x2 h)
/-! J7_copyOf_6403c -/
def kJ7_copyOf_6403c (σ : Hp) (x0 : Nat) (x1 : Int32) : Option (Nat × Hp) := bd2 (nwR σ x1) (fun v1 σ2 => (aln σ2 x0).bind (fun v3 => (cpR σ2 x0 0 v1 0 (if x1 < v3 then x1 else v3)).bind (fun σ4 => some (v1, σ4))))
set_option maxRecDepth 20000 in
theorem ksJ7_copyOf_6403c {l : Launch} {G : Gt} {n0 u0 : Nat} {σ : Hp} {Z : Nat × Hp} (x0 : Nat) (x1 : Int32) (h : kJ7_copyOf_6403c σ x0 x1 = some Z) : GoC l G RJ7 "copyOf" cJ7_copyOf_6403c 4 (some (.array (.object "java/lang/Object"))) 1 48 n0 u0 (some (G.rv Z.1)) Z.2 0 [(0, G.rv x0), (1, .int x1), (2, .ref G.mi)] [] σ := by
  unfold kJ7_copyOf_6403c at h
  refine GoC.aload_n 2 dJ7_copyOf_6403c_0 rfl ?_
  refine GC.ldcm (cl_J7_110) dJ7_copyOf_6403c_1 ?_
  refine GC.acmpC dJ7_copyOf_6403c_3 (tgt := 13) (by decide) ?_
  refine GoC.iload_n 1 dJ7_copyOf_6403c_6 rfl ?_
  refine GC.newR cl_J7_2 dJ7_copyOf_6403c_7 h (fun v1 σ2 h => ?_)
  refine GoC.goto 24 dJ7_copyOf_6403c_10 (by decide) ?_
  refine GC.astore_n [(0, G.rv x0), (1, .int x1), (2, .ref G.mi), (3, G.rv v1)] dJ7_copyOf_6403c_24 (by decide) rfl ?_
  refine GC.aload_n 0 dJ7_copyOf_6403c_25 rfl ?_
  refine GoC.iconst 0 dJ7_copyOf_6403c_26 (by decide) ?_
  refine GC.aload_n 3 dJ7_copyOf_6403c_27 rfl ?_
  refine GoC.iconst 0 dJ7_copyOf_6403c_28 (by decide) ?_
  refine GC.aload_n 0 dJ7_copyOf_6403c_29 rfl ?_
  refine GC.alen dJ7_copyOf_6403c_30 h (fun v3 h => ?_)
  refine GoC.iload_n 1 dJ7_copyOf_6403c_31 rfl ?_
  refine GC.mmin mm_J7_304 dJ7_copyOf_6403c_32 (Nat.le_of_ble_eq_true rfl) ⟨rfl, G.rv_cat _, rfl, G.rv_cat _, trivial⟩ (Nat.le_of_ble_eq_true rfl) ?_
  refine GC.copyR ac_J7_150 ac_nat ac_stat ac_ini dJ7_copyOf_6403c_35 (Nat.le_of_ble_eq_true rfl) trivial (Nat.le_of_ble_eq_true (by decide)) h (fun σ4 h => ?_)
  refine GC.aload_n 3 dJ7_copyOf_6403c_38 rfl ?_
  cases h
  exact GC.aret dJ7_copyOf_6403c_39 rfl (Or.inr ⟨_, rfl⟩)
set_option maxRecDepth 20000 in
theorem ktJ7_copyOf_6403c {l : Launch} {G : Gt} {σ : Hp} (x0 : Nat) (x1 : Int32) : ∀ Z, kJ7_copyOf_6403c σ x0 x1 = some Z → MtC l G yJ7_copyOf_6403c cJ7_copyOf_6403c 4 (some (.array (.object "java/lang/Object"))) 1 48 [G.rv x0, .int x1, .ref G.mi] σ (some (G.rv Z.1)) Z.2 := fun Z h => MtC.at (by decide +kernel) ⟨G.rv_cat _, rfl, rfl, trivial⟩ (Nat.le_of_ble_eq_true rfl) (ksJ7_copyOf_6403c x0 x1 h)
/-! J7_copyOf_1904c -/
def kJ7_copyOf_1904c (σ : Hp) (x0 : Nat) (x1 : Int32) : Option (Nat × Hp) := ckr σ x0 (bd2 (kJ7_copyOf_6403c σ x0 x1) (fun v1 σ2 => some (v1, σ2)))
set_option maxRecDepth 20000 in
theorem ksJ7_copyOf_1904c {l : Launch} {G : Gt} {n0 u0 : Nat} {σ : Hp} {Z : Nat × Hp} (x0 : Nat) (x1 : Int32) (h : kJ7_copyOf_1904c σ x0 x1 = some Z) : GoC l G RJ7 "copyOf" cJ7_copyOf_1904c 2 (some (.array (.object "java/lang/Object"))) 2 71 n0 u0 (some (G.rv Z.1)) Z.2 0 [(0, G.rv x0), (1, .int x1)] [] σ := by
  unfold kJ7_copyOf_1904c at h
  refine GC.aload_n 0 dJ7_copyOf_1904c_0 rfl ?_
  refine GoC.iload_n 1 dJ7_copyOf_1904c_1 rfl ?_
  refine GC.aload_n 0 dJ7_copyOf_1904c_2 rfl ?_
  obtain ⟨h0, h⟩ := ckr_some h
  refine GC.getC h0 gc_J7_86 dJ7_copyOf_1904c_3 (Nat.le_of_ble_eq_true rfl) ⟨rfl, G.rv_cat _, trivial⟩ (Nat.le_of_ble_eq_true rfl) ?_
  obtain ⟨v1, σ2, hq, h⟩ := bd2_some h
  refine GC.callsR (rest := []) [G.rv x0, .int x1, .ref G.mi] dJ7_copyOf_1904c_6 kk_J7_300 km_J7_copyOf_6403c (ktJ7_copyOf_6403c _ _ _ hq) rfl rfl (Nat.le_of_ble_eq_true rfl) (Nat.le_of_ble_eq_true rfl) trivial (Nat.le_of_ble_eq_true rfl) ?_
  cases h
  exact GC.aret dJ7_copyOf_1904c_9 rfl (Or.inr ⟨_, rfl⟩)
set_option maxRecDepth 20000 in
theorem ktJ7_copyOf_1904c {l : Launch} {G : Gt} {σ : Hp} (x0 : Nat) (x1 : Int32) : ∀ Z, kJ7_copyOf_1904c σ x0 x1 = some Z → MtC l G yJ7_copyOf_1904c cJ7_copyOf_1904c 2 (some (.array (.object "java/lang/Object"))) 2 71 [G.rv x0, .int x1] σ (some (G.rv Z.1)) Z.2 := fun Z h => MtC.at (by decide +kernel) ⟨G.rv_cat _, rfl, trivial⟩ (Nat.le_of_ble_eq_true rfl) (ksJ7_copyOf_1904c x0 x1 h)
/-! Jx4a65c_grow_92f84 -/
def kJx4a65c_grow_92f84_20  (x0 : Nat) (x1 : Int32) (x2 : Int32) (σ : Hp) : Option (Nat × Hp) := (kJ8_newLength_cabcc σ x2 (x1 - x2) (x2 >>> (1 &&& 31))).bind (fun v1 => (gfr σ 22 1201 x0).bind (fun v2 => bd2 (kJ7_copyOf_1904c σ v2 v1) (fun v3 σ4 => (pfr σ4 22 1201 x0 v3).bind (fun σ5 => some (v3, σ5)))))
def kJx4a65c_grow_92f84 (σ : Hp) (x0 : Nat) (x1 : Int32) : Option (Nat × Hp) := (gfr σ 22 1201 x0).bind (fun v6 => (aln σ v6).bind (fun v7 => if 0 < v7 then kJx4a65c_grow_92f84_20 x0 x1 v7 σ else (gfr σ 22 1201 x0).bind (fun v8 => if v8 = 1 then bd2 (nwR σ (if 10 < x1 then x1 else 10)) (fun v9 σ10 => (pfr σ10 22 1201 x0 v9).bind (fun σ11 => some (v9, σ11))) else kJx4a65c_grow_92f84_20 x0 x1 v7 σ)))
set_option maxRecDepth 20000 in
theorem ksJx4a65c_grow_92f84_20 {l : Launch} {G : Gt} {n0 u0 : Nat} {Z : Nat × Hp} (x0 : Nat) (x1 : Int32) (x2 : Int32) (σ : Hp) (h : kJx4a65c_grow_92f84_20 x0 x1 x2 σ = some Z) : GoC l G RJx4a65c "grow" cJx4a65c_grow_92f84 4 (some (.array (.object "java/lang/Object"))) 3 92 n0 u0 (some (G.rv Z.1)) Z.2 20 [(0, G.rv x0), (1, .int x1), (2, .int x2)] [] σ := by
  unfold kJx4a65c_grow_92f84_20 at h
  refine GoC.iload_n 2 dJx4a65c_grow_92f84_20 rfl ?_
  refine GoC.iload_n 1 dJx4a65c_grow_92f84_21 rfl ?_
  refine GoC.iload_n 2 dJx4a65c_grow_92f84_22 rfl ?_
  refine GoC.isub dJx4a65c_grow_92f84_23 ?_
  refine GoC.iload_n 2 dJx4a65c_grow_92f84_24 rfl ?_
  refine GoC.iconst 1 dJx4a65c_grow_92f84_25 (by decide) ?_
  refine GoC.ishr dJx4a65c_grow_92f84_26 ?_
  obtain ⟨v1, hq, h⟩ := Option.bind_eq_some_iff.mp h
  refine GC.callsI (rest := []) [.int x2, .int (x1 - x2), .int (x2 >>> (1 &&& 31))] dJx4a65c_grow_92f84_27 kk_Jx4a65c_73 km_J8_newLength_cabcc (ktJ8_newLength_cabcc _ _ _ _ hq) rfl rfl (Nat.le_of_ble_eq_true rfl) (Nat.le_of_ble_eq_true rfl) trivial (Nat.le_of_ble_eq_true rfl) ?_
  refine GoC.istore_n [(0, G.rv x0), (1, .int x1), (2, .int x2), (3, .int v1)] dJx4a65c_grow_92f84_30 (by decide) rfl ?_
  refine GC.aload_n 0 dJx4a65c_grow_92f84_31 rfl ?_
  refine GC.aload_n 0 dJx4a65c_grow_92f84_32 rfl ?_
  refine GC.getr 12 1 rfl (by decide) (by decide) fw_Jx4a65c_9 (Or.inl rfl) dJx4a65c_grow_92f84_33 h (fun v2 h => ?_)
  refine GoC.iload_n 3 dJx4a65c_grow_92f84_36 rfl ?_
  obtain ⟨v3, σ4, hq, h⟩ := bd2_some h
  refine GC.callsR (rest := [G.rv x0]) [G.rv v2, .int v1] dJx4a65c_grow_92f84_37 kk_Jx4a65c_66 km_J7_copyOf_1904c (ktJ7_copyOf_1904c _ _ _ hq) rfl rfl (Nat.le_of_ble_eq_true rfl) (Nat.le_of_ble_eq_true rfl) ⟨G.rv_cat _, trivial⟩ (Nat.le_of_ble_eq_true rfl) ?_
  refine GC.dup_x1 dJx4a65c_grow_92f84_40 (G.rv_cat _) (G.rv_cat _) ?_
  refine GC.putr 12 1 rfl (by decide) (by decide) (Or.inr ⟨_, rfl⟩) fw_Jx4a65c_9 (Or.inl rfl) (Or.inl rfl) dJx4a65c_grow_92f84_41 h (fun σ5 h => ?_)
  cases h
  exact GC.aret dJx4a65c_grow_92f84_44 rfl (Or.inr ⟨_, rfl⟩)
set_option maxRecDepth 20000 in
theorem ksJx4a65c_grow_92f84 {l : Launch} {G : Gt} {n0 u0 : Nat} {σ : Hp} {Z : Nat × Hp} (x0 : Nat) (x1 : Int32) (h : kJx4a65c_grow_92f84 σ x0 x1 = some Z) : GoC l G RJx4a65c "grow" cJx4a65c_grow_92f84 4 (some (.array (.object "java/lang/Object"))) 3 92 n0 u0 (some (G.rv Z.1)) Z.2 0 [(0, G.rv x0), (1, .int x1)] [] σ := by
  unfold kJx4a65c_grow_92f84 at h
  refine GC.aload_n 0 dJx4a65c_grow_92f84_0 rfl ?_
  refine GC.getr 12 1 rfl (by decide) (by decide) fw_Jx4a65c_9 (Or.inl rfl) dJx4a65c_grow_92f84_1 h (fun v6 h => ?_)
  refine GC.alen dJx4a65c_grow_92f84_4 h (fun v7 h => ?_)
  refine GoC.istore_n [(0, G.rv x0), (1, .int x1), (2, .int v7)] dJx4a65c_grow_92f84_5 (by decide) rfl ?_
  refine GoC.iload_n 2 dJx4a65c_grow_92f84_6 rfl ?_
  refine GoC.if_gt 20 dJx4a65c_grow_92f84_7 (by decide) h (fun h => ?_) (fun h => ?_)
  · exact ksJx4a65c_grow_92f84_20 _ _ _ _ h
  · refine GC.aload_n 0 dJx4a65c_grow_92f84_10 rfl ?_
    refine GC.getr 12 1 rfl (by decide) (by decide) fw_Jx4a65c_9 (Or.inl rfl) dJx4a65c_grow_92f84_11 h (fun v8 h => ?_)
    refine GC.gets sw_Jx4a65c_39 dJx4a65c_grow_92f84_14 ?_
    refine GC.acmp_eq 45 dJx4a65c_grow_92f84_17 (by decide) h (fun h => ?_) (fun h => ?_)
    · refine GC.aload_n 0 dJx4a65c_grow_92f84_45 rfl ?_
      refine GoC.bipush 10 dJx4a65c_grow_92f84_46 (by decide) ?_
      refine GoC.iload_n 1 dJx4a65c_grow_92f84_48 rfl ?_
      refine GC.mmax mm_Jx4a65c_79 dJx4a65c_grow_92f84_49 (Nat.le_of_ble_eq_true rfl) ⟨G.rv_cat _, trivial⟩ (Nat.le_of_ble_eq_true rfl) ?_
      refine GC.newR cl_Jx4a65c_7 dJx4a65c_grow_92f84_52 h (fun v9 σ10 h => ?_)
      refine GC.dup_x1 dJx4a65c_grow_92f84_55 (G.rv_cat _) (G.rv_cat _) ?_
      refine GC.putr 12 1 rfl (by decide) (by decide) (Or.inr ⟨_, rfl⟩) fw_Jx4a65c_9 (Or.inl rfl) (Or.inl rfl) dJx4a65c_grow_92f84_56 h (fun σ11 h => ?_)
      cases h
      exact GC.aret dJx4a65c_grow_92f84_59 rfl (Or.inr ⟨_, rfl⟩)
    · exact ksJx4a65c_grow_92f84_20 _ _ _ _ h
set_option maxRecDepth 20000 in
theorem ktJx4a65c_grow_92f84 {l : Launch} {G : Gt} {σ : Hp} (x0 : Nat) (x1 : Int32) : ∀ Z, kJx4a65c_grow_92f84 σ x0 x1 = some Z → MtC l G yJx4a65c_grow_92f84 cJx4a65c_grow_92f84 4 (some (.array (.object "java/lang/Object"))) 3 92 [G.rv x0, .int x1] σ (some (G.rv Z.1)) Z.2 := fun Z h => MtC.at (by decide +kernel) ⟨G.rv_cat _, rfl, trivial⟩ (Nat.le_of_ble_eq_true rfl) (ksJx4a65c_grow_92f84 x0 x1 h)
/-! Jx4a65c_grow_d5877 -/
def kJx4a65c_grow_d5877 (σ : Hp) (x0 : Nat) : Option (Nat × Hp) := (gfi σ 22 1202 x0).bind (fun v1 => ckd σ x0 22 (bd2 (kJx4a65c_grow_92f84 σ x0 (v1 + 1)) (fun v2 σ3 => some (v2, σ3))))
set_option maxRecDepth 20000 in
theorem ksJx4a65c_grow_d5877 {l : Launch} {G : Gt} {n0 u0 : Nat} {σ : Hp} {Z : Nat × Hp} (x0 : Nat) (h : kJx4a65c_grow_d5877 σ x0 = some Z) : GoC l G RJx4a65c "grow" cJx4a65c_grow_d5877 1 (some (.array (.object "java/lang/Object"))) 4 115 n0 u0 (some (G.rv Z.1)) Z.2 0 [(0, G.rv x0)] [] σ := by
  unfold kJx4a65c_grow_d5877 at h
  refine GC.aload_n 0 dJx4a65c_grow_d5877_0 rfl ?_
  refine GC.aload_n 0 dJx4a65c_grow_d5877_1 rfl ?_
  refine GC.geti 12 2 rfl (by decide) (by decide) fw_Jx4a65c_48 (Or.inl rfl) dJx4a65c_grow_d5877_2 h (fun v1 h => ?_)
  refine GoC.iconst 1 dJx4a65c_grow_d5877_5 (by decide) ?_
  refine GoC.iadd dJx4a65c_grow_d5877_6 ?_
  obtain ⟨h0, h⟩ := ckd_some h
  obtain ⟨v2, σ3, hq, h⟩ := bd2_some h
  refine GC.callvR (rest := []) 12 rfl h0 rfl [.int (v1 + 1)] dJx4a65c_grow_d5877_7 kk_Jx4a65c_69 km_Jx4a65c_grow_92f84.1 km_Jx4a65c_grow_92f84.2 (ktJx4a65c_grow_92f84 _ _ _ hq) rfl rfl (Nat.le_of_ble_eq_true rfl) (Nat.le_of_ble_eq_true rfl) trivial (Nat.le_of_ble_eq_true rfl) ?_
  cases h
  exact GC.aret dJx4a65c_grow_d5877_10 rfl (Or.inr ⟨_, rfl⟩)
set_option maxRecDepth 20000 in
theorem ktJx4a65c_grow_d5877 {l : Launch} {G : Gt} {σ : Hp} (x0 : Nat) : ∀ Z, kJx4a65c_grow_d5877 σ x0 = some Z → MtC l G yJx4a65c_grow_d5877 cJx4a65c_grow_d5877 1 (some (.array (.object "java/lang/Object"))) 4 115 [G.rv x0] σ (some (G.rv Z.1)) Z.2 := fun Z h => MtC.at (by decide +kernel) ⟨G.rv_cat _, trivial⟩ (Nat.le_of_ble_eq_true rfl) (ksJx4a65c_grow_d5877 x0 h)
/-! Jx4a65c_add_72be8 -/
def kJx4a65c_add_72be8_11  (x0 : Nat) (x1 : Nat) (x2 : Nat) (x3 : Int32) (σ : Hp) : Option (Hp) := (rst σ x2 x3 x1).bind (fun σ1 => (pfi σ1 22 1202 x0 (x3 + 1)).bind (fun σ2 => some σ2))
def kJx4a65c_add_72be8 (σ : Hp) (x0 : Nat) (x1 : Nat) (x2 : Nat) (x3 : Int32) : Option (Hp) := (aln σ x2).bind (fun v3 => if x3 = v3 then ckd σ x0 22 (bd2 (kJx4a65c_grow_d5877 σ x0) (fun v4 σ5 => kJx4a65c_add_72be8_11 x0 x1 v4 x3 σ5)) else kJx4a65c_add_72be8_11 x0 x1 x2 x3 σ)
set_option maxRecDepth 20000 in
theorem ksJx4a65c_add_72be8_11 {l : Launch} {G : Gt} {n0 u0 : Nat} {Z : Hp} (x0 : Nat) (x1 : Nat) (x2 : Nat) (x3 : Int32) (σ : Hp) (h : kJx4a65c_add_72be8_11 x0 x1 x2 x3 σ = some Z) : GoC l G RJx4a65c "add" cJx4a65c_add_72be8 4 none 5 135 n0 u0 none Z 11 [(0, G.rv x0), (1, G.rv x1), (2, G.rv x2), (3, .int x3)] [] σ := by
  unfold kJx4a65c_add_72be8_11 at h
  refine GC.aload_n 2 dJx4a65c_add_72be8_11 rfl ?_
  refine GoC.iload_n 3 dJx4a65c_add_72be8_12 rfl ?_
  refine GC.aload_n 1 dJx4a65c_add_72be8_13 rfl ?_
  refine GC.aast dJx4a65c_add_72be8_14 h (fun σ1 h => ?_)
  refine GC.aload_n 0 dJx4a65c_add_72be8_15 rfl ?_
  refine GoC.iload_n 3 dJx4a65c_add_72be8_16 rfl ?_
  refine GoC.iconst 1 dJx4a65c_add_72be8_17 (by decide) ?_
  refine GoC.iadd dJx4a65c_add_72be8_18 ?_
  refine GC.puti 12 2 rfl (by decide) (by decide) (rfl) fw_Jx4a65c_48 (Or.inl rfl) (Or.inl rfl) dJx4a65c_add_72be8_19 h (fun σ2 h => ?_)
  cases h
  exact GoC.vret dJx4a65c_add_72be8_22 rfl
set_option maxRecDepth 20000 in
theorem ksJx4a65c_add_72be8 {l : Launch} {G : Gt} {n0 u0 : Nat} {σ : Hp} {Z : Hp} (x0 : Nat) (x1 : Nat) (x2 : Nat) (x3 : Int32) (h : kJx4a65c_add_72be8 σ x0 x1 x2 x3 = some Z) : GoC l G RJx4a65c "add" cJx4a65c_add_72be8 4 none 5 135 n0 u0 none Z 0 [(0, G.rv x0), (1, G.rv x1), (2, G.rv x2), (3, .int x3)] [] σ := by
  unfold kJx4a65c_add_72be8 at h
  refine GoC.iload_n 3 dJx4a65c_add_72be8_0 rfl ?_
  refine GC.aload_n 2 dJx4a65c_add_72be8_1 rfl ?_
  refine GC.alen dJx4a65c_add_72be8_2 h (fun v3 h => ?_)
  refine GoC.icmp_ne 11 dJx4a65c_add_72be8_3 (by decide) h (fun h => ?_) (fun h => ?_)
  · exact ksJx4a65c_add_72be8_11 _ _ _ _ _ h
  · refine GC.aload_n 0 dJx4a65c_add_72be8_6 rfl ?_
    obtain ⟨h0, h⟩ := ckd_some h
    obtain ⟨v4, σ5, hq, h⟩ := bd2_some h
    refine GC.callvR (rest := []) 12 rfl h0 rfl [] dJx4a65c_add_72be8_7 kk_Jx4a65c_129 km_Jx4a65c_grow_d5877.1 km_Jx4a65c_grow_d5877.2 (ktJx4a65c_grow_d5877 _ _ hq) rfl rfl (Nat.le_of_ble_eq_true rfl) (Nat.le_of_ble_eq_true rfl) trivial (Nat.le_of_ble_eq_true rfl) ?_
    refine GC.astore_n [(0, G.rv x0), (1, G.rv x1), (2, G.rv v4), (3, .int x3)] dJx4a65c_add_72be8_10 (by decide) rfl ?_
    exact ksJx4a65c_add_72be8_11 _ _ _ _ _ h
set_option maxRecDepth 20000 in
theorem ktJx4a65c_add_72be8 {l : Launch} {G : Gt} {σ : Hp} (x0 : Nat) (x1 : Nat) (x2 : Nat) (x3 : Int32) : ∀ Z, kJx4a65c_add_72be8 σ x0 x1 x2 x3 = some Z → MtC l G yJx4a65c_add_72be8 cJx4a65c_add_72be8 4 none 5 135 [G.rv x0, G.rv x1, G.rv x2, .int x3] σ none Z := fun Z h => MtC.at (by decide +kernel) ⟨G.rv_cat _, G.rv_cat _, G.rv_cat _, rfl, trivial⟩ (Nat.le_of_ble_eq_true rfl) (ksJx4a65c_add_72be8 x0 x1 x2 x3 h)
/-! Jx4a65c_add_9ea2d -/
def kJx4a65c_add_9ea2d (σ : Hp) (x0 : Nat) (x1 : Nat) : Option (Int32 × Hp) := (gfi σ 22 1200 x0).bind (fun v1 => (pfi σ 22 1200 x0 (v1 + 1)).bind (fun σ2 => (gfr σ2 22 1201 x0).bind (fun v3 => (gfi σ2 22 1202 x0).bind (fun v4 => ckd σ2 x0 22 ((kJx4a65c_add_72be8 σ2 x0 x1 v3 v4).bind (fun σ5 => (zb 1).bind (fun w => some (w, σ5))))))))
set_option maxRecDepth 20000 in
theorem ksJx4a65c_add_9ea2d {l : Launch} {G : Gt} {n0 u0 : Nat} {σ : Hp} {Z : Int32 × Hp} (x0 : Nat) (x1 : Nat) (h : kJx4a65c_add_9ea2d σ x0 x1 = some Z) : GoC l G RJx4a65c "add" cJx4a65c_add_9ea2d 2 (some .boolean) 6 158 n0 u0 (some (.int Z.1)) Z.2 0 [(0, G.rv x0), (1, G.rv x1)] [] σ := by
  unfold kJx4a65c_add_9ea2d at h
  refine GC.aload_n 0 dJx4a65c_add_9ea2d_0 rfl ?_
  refine GoC.dup dJx4a65c_add_9ea2d_1 (G.rv_cat _) ?_
  refine GC.geti 12 0 rfl (by decide) (by decide) fw_Jx4a65c_63 (Or.inr fs_Jx4a65c_63) dJx4a65c_add_9ea2d_2 h (fun v1 h => ?_)
  refine GoC.iconst 1 dJx4a65c_add_9ea2d_5 (by decide) ?_
  refine GoC.iadd dJx4a65c_add_9ea2d_6 ?_
  refine GC.puti 12 0 rfl (by decide) (by decide) (rfl) fw_Jx4a65c_63 (Or.inr fs_Jx4a65c_63) (Or.inl rfl) dJx4a65c_add_9ea2d_7 h (fun σ2 h => ?_)
  refine GC.aload_n 0 dJx4a65c_add_9ea2d_10 rfl ?_
  refine GC.aload_n 1 dJx4a65c_add_9ea2d_11 rfl ?_
  refine GC.aload_n 0 dJx4a65c_add_9ea2d_12 rfl ?_
  refine GC.getr 12 1 rfl (by decide) (by decide) fw_Jx4a65c_9 (Or.inl rfl) dJx4a65c_add_9ea2d_13 h (fun v3 h => ?_)
  refine GC.aload_n 0 dJx4a65c_add_9ea2d_16 rfl ?_
  refine GC.geti 12 2 rfl (by decide) (by decide) fw_Jx4a65c_48 (Or.inl rfl) dJx4a65c_add_9ea2d_17 h (fun v4 h => ?_)
  obtain ⟨h0, h⟩ := ckd_some h
  obtain ⟨σ5, hq, h⟩ := Option.bind_eq_some_iff.mp h
  refine GC.callvV (rest := []) 12 rfl h0 rfl [G.rv x1, G.rv v3, .int v4] dJx4a65c_add_9ea2d_20 kk_Jx4a65c_131 km_Jx4a65c_add_72be8.1 km_Jx4a65c_add_72be8.2 (ktJx4a65c_add_72be8 _ _ _ _ _ hq) rfl rfl (Nat.le_of_ble_eq_true rfl) (Nat.le_of_ble_eq_true rfl) trivial (Nat.le_of_ble_eq_true rfl) ?_
  refine GoC.iconst 1 dJx4a65c_add_9ea2d_23 (by decide) ?_
  obtain ⟨w, hw, h⟩ := Option.bind_eq_some_iff.mp h
  cases h
  exact GoC.zret dJx4a65c_add_9ea2d_24 rfl hw
set_option maxRecDepth 20000 in
theorem ktJx4a65c_add_9ea2d {l : Launch} {G : Gt} {σ : Hp} (x0 : Nat) (x1 : Nat) : ∀ Z, kJx4a65c_add_9ea2d σ x0 x1 = some Z → MtC l G yJx4a65c_add_9ea2d cJx4a65c_add_9ea2d 2 (some .boolean) 6 158 [G.rv x0, G.rv x1] σ (some (.int Z.1)) Z.2 := fun Z h => MtC.at (by decide +kernel) ⟨G.rv_cat _, G.rv_cat _, trivial⟩ (Nat.le_of_ble_eq_true rfl) (ksJx4a65c_add_9ea2d x0 x1 h)
