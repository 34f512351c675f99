/-! X8_relabel -/
def kX8_relabel_33 (k2 : Nat → Int32 → Int32 → Int32 → Hp → Option (Hp)) (x0 : Nat) (x1 : Int32) (x2 : Int32) (x3 : Int32) (y0 : Nat) (y1 : Int32) (y2 : Int32) (σ : Hp) : Option (Hp) := (ast σ 1 y0 y1 y2).bind (fun σ1 => k2 x0 x1 x2 (x3 + 1) σ1)
def kX8_relabel_2  : Nat → Nat → Int32 → Int32 → Int32 → Hp → Option (Hp)
  | 0, _, _, _, _, _ => none
  | n + 1, x0, x1, x2, x3, σ => if 40 ≤ x3 then some σ else (gfr σ 18 806 x0).bind (fun v2 => (gfr σ 18 806 x0).bind (fun v3 => (ald σ 1 v3 x3).bind (fun v4 => if v4 = x1 then kX8_relabel_33 (kX8_relabel_2 n) x0 x1 x2 x3 v2 x3 x2 σ else (gfr σ 18 806 x0).bind (fun v5 => (ald σ 1 v5 x3).bind (fun v6 => kX8_relabel_33 (kX8_relabel_2 n) x0 x1 x2 x3 v2 x3 v6 σ)))))
def kX8_relabel (σ : Hp) (x0 : Nat) (x1 : Int32) (x2 : Int32) : Option (Hp) := kX8_relabel_2 FU x0 x1 x2 0 σ
set_option maxRecDepth 20000 in
theorem ksX8_relabel_33 {l : Launch} {G : Gt} {n0 u0 : Nat} {Z : Hp} (k2 : Nat → Int32 → Int32 → Int32 → Hp → Option (Hp)) (h2 : ∀ (x0 : Nat) (x1 : Int32) (x2 : Int32) (x3 : Int32) (σ : Hp), k2 x0 x1 x2 x3 σ = some Z → GoC l G RX8 "relabel" cX8_relabel 4 none 0 0 n0 u0 none Z 2 [(0, G.rv x0), (1, .int x1), (2, .int x2), (3, .int x3)] [] σ) (x0 : Nat) (x1 : Int32) (x2 : Int32) (x3 : Int32) (y0 : Nat) (y1 : Int32) (y2 : Int32) (σ : Hp) (h : kX8_relabel_33 k2 x0 x1 x2 x3 y0 y1 y2 σ = some Z) : GoC l G RX8 "relabel" cX8_relabel 4 none 0 0 n0 u0 none Z 33 [(0, G.rv x0), (1, .int x1), (2, .int x2), (3, .int x3)] [.int y2, .int y1, G.rv y0] σ := by
  unfold kX8_relabel_33 at h
  refine GC.iast dX8_relabel_33 h (fun σ1 h => ?_)
  refine GoC.iinc (w := 1) 3 [(0, G.rv x0), (1, .int x1), (2, .int x2), (3, .int (x3 + 1))] dX8_relabel_34 rfl (by decide) (by decide) rfl ?_
  refine GoC.goto 2 dX8_relabel_37 (by decide) ?_
  exact h2 _ _ _ _ _ h
set_option maxRecDepth 20000 in
theorem ksX8_relabel_2 {l : Launch} {G : Gt} {n0 u0 : Nat} {Z : Hp} (n : Nat) : ∀ (x0 : Nat) (x1 : Int32) (x2 : Int32) (x3 : Int32) (σ : Hp), kX8_relabel_2 n x0 x1 x2 x3 σ = some Z → GoC l G RX8 "relabel" cX8_relabel 4 none 0 0 n0 u0 none Z 2 [(0, G.rv x0), (1, .int x1), (2, .int x2), (3, .int x3)] [] σ := by
  induction n with
  | zero => intro x0 x1 x2 x3 σ h; rw [kX8_relabel_2] at h; cases h
  | succ n ih =>
    intro x0 x1 x2 x3 σ h
    rw [kX8_relabel_2] at h
    refine GoC.iload_n 3 dX8_relabel_2 rfl ?_
    refine GoC.bipush 40 dX8_relabel_3 (by decide) ?_
    refine GoC.icmp_ge 40 dX8_relabel_5 (by decide) h (fun h => ?_) (fun h => ?_)
    · cases h
      exact GoC.vret dX8_relabel_40 rfl
    · refine GC.aload_n 0 dX8_relabel_8 rfl ?_
      refine GC.getr 8 6 rfl (by decide) (by decide) fw_X8_15 (Or.inl rfl) dX8_relabel_9 h (fun v2 h => ?_)
      refine GoC.iload_n 3 dX8_relabel_12 rfl ?_
      refine GC.aload_n 0 dX8_relabel_13 rfl ?_
      refine GC.getr 8 6 rfl (by decide) (by decide) fw_X8_15 (Or.inl rfl) dX8_relabel_14 h (fun v3 h => ?_)
      refine GoC.iload_n 3 dX8_relabel_17 rfl ?_
      refine GC.iald dX8_relabel_18 h (fun v4 h => ?_)
      refine GoC.iload_n 1 dX8_relabel_19 rfl ?_
      refine GoC.icmp_ne 27 dX8_relabel_20 (by decide) h (fun h => ?_) (fun h => ?_)
      · refine GC.aload_n 0 dX8_relabel_27 rfl ?_
        refine GC.getr 8 6 rfl (by decide) (by decide) fw_X8_15 (Or.inl rfl) dX8_relabel_28 h (fun v5 h => ?_)
        refine GoC.iload_n 3 dX8_relabel_31 rfl ?_
        refine GC.iald dX8_relabel_32 h (fun v6 h => ?_)
        exact ksX8_relabel_33 _ ih _ _ _ _ _ _ _ _ h
      · refine GoC.iload_n 2 dX8_relabel_23 rfl ?_
        refine GoC.goto 33 dX8_relabel_24 (by decide) ?_
        exact ksX8_relabel_33 _ ih _ _ _ _ _ _ _ _ h
set_option maxRecDepth 20000 in
theorem ksX8_relabel {l : Launch} {G : Gt} {n0 u0 : Nat} {σ : Hp} {Z : Hp} (x0 : Nat) (x1 : Int32) (x2 : Int32) (h : kX8_relabel σ x0 x1 x2 = some Z) : GoC l G RX8 "relabel" cX8_relabel 4 none 0 0 n0 u0 none Z 0 [(0, G.rv x0), (1, .int x1), (2, .int x2)] [] σ := by
  unfold kX8_relabel at h
  refine GoC.iconst 0 dX8_relabel_0 (by decide) ?_
  refine GoC.istore_n [(0, G.rv x0), (1, .int x1), (2, .int x2), (3, .int 0)] dX8_relabel_1 (by decide) rfl ?_
  exact ksX8_relabel_2 _ _ _ _ _ _ h
set_option maxRecDepth 20000 in
theorem ktX8_relabel {l : Launch} {G : Gt} {σ : Hp} (x0 : Nat) (x1 : Int32) (x2 : Int32) : ∀ Z, kX8_relabel σ x0 x1 x2 = some Z → MtC l G yX8_relabel cX8_relabel 4 none 0 0 [G.rv x0, .int x1, .int x2] σ none Z := fun Z h => MtC.at (by decide +kernel) ⟨G.rv_cat _, rfl, rfl, trivial⟩ (Nat.le_of_ble_eq_true rfl) (ksX8_relabel x0 x1 x2 h)
/-! X8_join -/
def kX8_join_109 (k31 : Nat → Int32 → Int32 → Int32 → Hp → Option (Int32 × Hp)) (k42 : Nat → Int32 → Int32 → Int32 → Int32 → Hp → Option (Int32 × Hp)) (x0 : Nat) (x1 : Int32) (x2 : Int32) (x3 : Int32) (x4 : Int32) (σ : Hp) : Option (Int32 × Hp) := k42 x0 x1 x2 x3 (x4 + 1) σ
def kX8_join_42 (k31 : Nat → Int32 → Int32 → Int32 → Hp → Option (Int32 × Hp)) : Nat → Nat → Int32 → Int32 → Int32 → Int32 → Hp → Option (Int32 × Hp)
  | 0, _, _, _, _, _, _ => none
  | n + 1, x0, x1, x2, x3, x4, σ => if 40 ≤ x4 then k31 x0 x1 x2 (x3 + 1) σ else ckd σ x0 18 ((kX8_isPair σ x0 x3 x4).bind (fun v1 => if v1 = 0 then kX8_join_109 k31 (kX8_join_42 k31 n) x0 x1 x2 x3 x4 σ else (gfr σ 18 801 x0).bind (fun v2 => ckd σ v2 11 ((kX1_of σ v2 x3 x4).bind (fun v3 => if x1 < v3 then kX8_join_109 k31 (kX8_join_42 k31 n) x0 x1 x2 x3 x4 σ else (gfr σ 18 806 x0).bind (fun v4 => (ald σ 1 v4 x3).bind (fun v5 => (gfr σ 18 806 x0).bind (fun v6 => (ald σ 1 v6 x4).bind (fun v7 => if v5 = v7 then kX8_join_109 k31 (kX8_join_42 k31 n) x0 x1 x2 x3 x4 σ else (gfr σ 18 806 x0).bind (fun v8 => (ald σ 1 v8 x4).bind (fun v9 => (gfr σ 18 806 x0).bind (fun v10 => (ald σ 1 v10 x3).bind (fun v11 => ckd σ x0 18 ((kX8_relabel σ x0 v9 v11).bind (fun σ12 => kX8_join_109 k31 (kX8_join_42 k31 n) x0 x1 (x2 + (-1)) x3 x4 σ12)))))))))))))))
def kX8_join_31  : Nat → Nat → Int32 → Int32 → Int32 → Hp → Option (Int32 × Hp)
  | 0, _, _, _, _, _ => none
  | n + 1, x0, x1, x2, x3, σ => if 40 ≤ x3 then some (x2, σ) else kX8_join_42 (kX8_join_31 n) FU x0 x1 x2 x3 (x3 + 1) σ
def kX8_join_10  : Nat → Nat → Int32 → Int32 → Int32 → Hp → Option (Int32 × Hp)
  | 0, _, _, _, _, _ => none
  | n + 1, x0, x1, x2, x3, σ => if 40 ≤ x3 then kX8_join_31 FU x0 x1 x2 0 σ else (gfr σ 18 806 x0).bind (fun v13 => (ast σ 1 v13 x3 x3).bind (fun σ14 => kX8_join_10 n x0 x1 x2 (x3 + 1) σ14))
def kX8_join (σ : Hp) (x0 : Nat) (x1 : Int32) : Option (Int32 × Hp) := (gfr σ 18 800 x0).bind (fun v15 => (gfi σ 17 701 v15).bind (fun v16 => kX8_join_10 FU x0 x1 v16 0 σ))
set_option maxRecDepth 20000 in
theorem ksX8_join_109 {l : Launch} {G : Gt} {n0 u0 : Nat} {Z : Int32 × Hp} (k31 : Nat → Int32 → Int32 → Int32 → Hp → Option (Int32 × Hp)) (h31 : ∀ (x0 : Nat) (x1 : Int32) (x2 : Int32) (x3 : Int32) (σ : Hp), k31 x0 x1 x2 x3 σ = some Z → GoC l G RX8 "join" cX8_join 5 (some .int) 2 43 n0 u0 (some (.int Z.1)) Z.2 31 [(0, G.rv x0), (1, .int x1), (2, .int x2), (3, .int x3)] [] σ) (k42 : Nat → Int32 → Int32 → Int32 → Int32 → Hp → Option (Int32 × Hp)) (h42 : ∀ (x0 : Nat) (x1 : Int32) (x2 : Int32) (x3 : Int32) (x4 : Int32) (σ : Hp), k42 x0 x1 x2 x3 x4 σ = some Z → GoC l G RX8 "join" cX8_join 5 (some .int) 2 43 n0 u0 (some (.int Z.1)) Z.2 42 [(0, G.rv x0), (1, .int x1), (2, .int x2), (3, .int x3), (4, .int x4)] [] σ) (x0 : Nat) (x1 : Int32) (x2 : Int32) (x3 : Int32) (x4 : Int32) (σ : Hp) (h : kX8_join_109 k31 k42 x0 x1 x2 x3 x4 σ = some Z) : GoC l G RX8 "join" cX8_join 5 (some .int) 2 43 n0 u0 (some (.int Z.1)) Z.2 109 [(0, G.rv x0), (1, .int x1), (2, .int x2), (3, .int x3), (4, .int x4)] [] σ := by
  unfold kX8_join_109 at h
  refine GoC.iinc (w := 1) 4 [(0, G.rv x0), (1, .int x1), (2, .int x2), (3, .int x3), (4, .int (x4 + 1))] dX8_join_109 rfl (by decide) (by decide) rfl ?_
  refine GoC.goto 42 dX8_join_112 (by decide) ?_
  exact h42 _ _ _ _ _ _ h
set_option maxRecDepth 20000 in
theorem ksX8_join_42 {l : Launch} {G : Gt} {n0 u0 : Nat} {Z : Int32 × Hp} (k31 : Nat → Int32 → Int32 → Int32 → Hp → Option (Int32 × Hp)) (h31 : ∀ (x0 : Nat) (x1 : Int32) (x2 : Int32) (x3 : Int32) (σ : Hp), k31 x0 x1 x2 x3 σ = some Z → GoC l G RX8 "join" cX8_join 5 (some .int) 2 43 n0 u0 (some (.int Z.1)) Z.2 31 [(0, G.rv x0), (1, .int x1), (2, .int x2), (3, .int x3)] [] σ) (n : Nat) : ∀ (x0 : Nat) (x1 : Int32) (x2 : Int32) (x3 : Int32) (x4 : Int32) (σ : Hp), kX8_join_42 k31 n x0 x1 x2 x3 x4 σ = some Z → GoC l G RX8 "join" cX8_join 5 (some .int) 2 43 n0 u0 (some (.int Z.1)) Z.2 42 [(0, G.rv x0), (1, .int x1), (2, .int x2), (3, .int x3), (4, .int x4)] [] σ := by
  induction n with
  | zero => intro x0 x1 x2 x3 x4 σ h; rw [kX8_join_42] at h; cases h
  | succ n ih =>
    intro x0 x1 x2 x3 x4 σ h
    rw [kX8_join_42] at h
    refine GoC.iload 4 dX8_join_42 rfl ?_
    refine GoC.bipush 40 dX8_join_44 (by decide) ?_
    refine GoC.icmp_ge 115 dX8_join_46 (by decide) h (fun h => ?_) (fun h => ?_)
    · refine GoC.iinc (w := 1) 3 [(0, G.rv x0), (1, .int x1), (2, .int x2), (3, .int (x3 + 1)), (4, .int x4)] dX8_join_115 rfl (by decide) (by decide) rfl ?_
      refine GoC.goto 31 dX8_join_118 (by decide) ?_
      refine GoC.sub [0, 1, 2, 3] rfl ?_
      exact h31 _ _ _ _ _ h
    · refine GC.aload_n 0 dX8_join_49 rfl ?_
      refine GoC.iload_n 3 dX8_join_50 rfl ?_
      refine GoC.iload 4 dX8_join_51 rfl ?_
      obtain ⟨h0, h⟩ := ckd_some h
      obtain ⟨v1, hq, h⟩ := Option.bind_eq_some_iff.mp h
      refine GC.callvI (rest := []) 8 rfl h0 rfl [.int x3, .int x4] dX8_join_53 kk_X8_62 km_X8_isPair.1 km_X8_isPair.2 (ktX8_isPair _ _ _ _ hq) rfl rfl (Nat.le_of_ble_eq_true rfl) (Nat.le_of_ble_eq_true rfl) trivial (Nat.le_of_ble_eq_true rfl) ?_
      refine GoC.if_eq 109 dX8_join_56 (by decide) h (fun h => ?_) (fun h => ?_)
      · exact ksX8_join_109 _ h31 _ ih _ _ _ _ _ _ h
      · refine GC.aload_n 0 dX8_join_59 rfl ?_
        refine GC.getr 8 1 rfl (by decide) (by decide) fw_X8_28 (Or.inl rfl) dX8_join_60 h (fun v2 h => ?_)
        refine GoC.iload_n 3 dX8_join_63 rfl ?_
        refine GoC.iload 4 dX8_join_64 rfl ?_
        obtain ⟨h0, h⟩ := ckd_some h
        obtain ⟨v3, hq, h⟩ := Option.bind_eq_some_iff.mp h
        refine GC.callvI (rest := []) 1 rfl h0 rfl [.int x3, .int x4] dX8_join_66 kk_X8_52 km_X1_of.1 km_X1_of.2 (ktX1_of _ _ _ _ hq) rfl rfl (Nat.le_of_ble_eq_true rfl) (Nat.le_of_ble_eq_true rfl) trivial (Nat.le_of_ble_eq_true rfl) ?_
        refine GoC.iload_n 1 dX8_join_69 rfl ?_
        refine GoC.icmp_gt 109 dX8_join_70 (by decide) h (fun h => ?_) (fun h => ?_)
        · exact ksX8_join_109 _ h31 _ ih _ _ _ _ _ _ h
        · refine GC.aload_n 0 dX8_join_73 rfl ?_
          refine GC.getr 8 6 rfl (by decide) (by decide) fw_X8_15 (Or.inl rfl) dX8_join_74 h (fun v4 h => ?_)
          refine GoC.iload_n 3 dX8_join_77 rfl ?_
          refine GC.iald dX8_join_78 h (fun v5 h => ?_)
          refine GC.aload_n 0 dX8_join_79 rfl ?_
          refine GC.getr 8 6 rfl (by decide) (by decide) fw_X8_15 (Or.inl rfl) dX8_join_80 h (fun v6 h => ?_)
          refine GoC.iload 4 dX8_join_83 rfl ?_
          refine GC.iald dX8_join_85 h (fun v7 h => ?_)
          refine GoC.icmp_eq 109 dX8_join_86 (by decide) h (fun h => ?_) (fun h => ?_)
          · exact ksX8_join_109 _ h31 _ ih _ _ _ _ _ _ h
          · refine GC.aload_n 0 dX8_join_89 rfl ?_
            refine GC.aload_n 0 dX8_join_90 rfl ?_
            refine GC.getr 8 6 rfl (by decide) (by decide) fw_X8_15 (Or.inl rfl) dX8_join_91 h (fun v8 h => ?_)
            refine GoC.iload 4 dX8_join_94 rfl ?_
            refine GC.iald dX8_join_96 h (fun v9 h => ?_)
            refine GC.aload_n 0 dX8_join_97 rfl ?_
            refine GC.getr 8 6 rfl (by decide) (by decide) fw_X8_15 (Or.inl rfl) dX8_join_98 h (fun v10 h => ?_)
            refine GoC.iload_n 3 dX8_join_101 rfl ?_
            refine GC.iald dX8_join_102 h (fun v11 h => ?_)
            obtain ⟨h0, h⟩ := ckd_some h
            obtain ⟨σ12, hq, h⟩ := Option.bind_eq_some_iff.mp h
            refine GC.callvV (rest := []) 8 rfl h0 rfl [.int v9, .int v11] dX8_join_103 kk_X8_88 km_X8_relabel.1 km_X8_relabel.2 (ktX8_relabel _ _ _ _ hq) rfl rfl (Nat.le_of_ble_eq_true rfl) (Nat.le_of_ble_eq_true rfl) trivial (Nat.le_of_ble_eq_true rfl) ?_
            refine GoC.iinc (w := (-1)) 2 [(0, G.rv x0), (1, .int x1), (2, .int (x2 + (-1))), (3, .int x3), (4, .int x4)] dX8_join_106 rfl (by decide) (by decide) rfl ?_
            exact ksX8_join_109 _ h31 _ ih _ _ _ _ _ _ h
set_option maxRecDepth 20000 in
theorem ksX8_join_31 {l : Launch} {G : Gt} {n0 u0 : Nat} {Z : Int32 × Hp} (n : Nat) : ∀ (x0 : Nat) (x1 : Int32) (x2 : Int32) (x3 : Int32) (σ : Hp), kX8_join_31 n x0 x1 x2 x3 σ = some Z → GoC l G RX8 "join" cX8_join 5 (some .int) 2 43 n0 u0 (some (.int Z.1)) Z.2 31 [(0, G.rv x0), (1, .int x1), (2, .int x2), (3, .int x3)] [] σ := by
  induction n with
  | zero => intro x0 x1 x2 x3 σ h; rw [kX8_join_31] at h; cases h
  | succ n ih =>
    intro x0 x1 x2 x3 σ h
    rw [kX8_join_31] at h
    refine GoC.iload_n 3 dX8_join_31 rfl ?_
    refine GoC.bipush 40 dX8_join_32 (by decide) ?_
    refine GoC.icmp_ge 121 dX8_join_34 (by decide) h (fun h => ?_) (fun h => ?_)
    · refine GoC.iload_n 2 dX8_join_121 rfl ?_
      cases h
      exact GoC.iret dX8_join_122 rfl
    · refine GoC.iload_n 3 dX8_join_37 rfl ?_
      refine GoC.iconst 1 dX8_join_38 (by decide) ?_
      refine GoC.iadd dX8_join_39 ?_
      refine GoC.istore [(0, G.rv x0), (1, .int x1), (2, .int x2), (3, .int x3), (4, .int (x3 + 1))] dX8_join_40 (by decide) rfl ?_
      exact ksX8_join_42 _ ih _ _ _ _ _ _ _ h
set_option maxRecDepth 20000 in
theorem ksX8_join_10 {l : Launch} {G : Gt} {n0 u0 : Nat} {Z : Int32 × Hp} (n : Nat) : ∀ (x0 : Nat) (x1 : Int32) (x2 : Int32) (x3 : Int32) (σ : Hp), kX8_join_10 n x0 x1 x2 x3 σ = some Z → GoC l G RX8 "join" cX8_join 5 (some .int) 2 43 n0 u0 (some (.int Z.1)) Z.2 10 [(0, G.rv x0), (1, .int x1), (2, .int x2), (3, .int x3)] [] σ := by
  induction n with
  | zero => intro x0 x1 x2 x3 σ h; rw [kX8_join_10] at h; cases h
  | succ n ih =>
    intro x0 x1 x2 x3 σ h
    rw [kX8_join_10] at h
    refine GoC.iload_n 3 dX8_join_10 rfl ?_
    refine GoC.bipush 40 dX8_join_11 (by decide) ?_
    refine GoC.icmp_ge 29 dX8_join_13 (by decide) h (fun h => ?_) (fun h => ?_)
    · refine GoC.iconst 0 dX8_join_29 (by decide) ?_
      refine GoC.istore_n [(0, G.rv x0), (1, .int x1), (2, .int x2), (3, .int 0)] dX8_join_30 (by decide) rfl ?_
      exact ksX8_join_31 _ _ _ _ _ _ h
    · refine GC.aload_n 0 dX8_join_16 rfl ?_
      refine GC.getr 8 6 rfl (by decide) (by decide) fw_X8_15 (Or.inl rfl) dX8_join_17 h (fun v13 h => ?_)
      refine GoC.iload_n 3 dX8_join_20 rfl ?_
      refine GoC.iload_n 3 dX8_join_21 rfl ?_
      refine GC.iast dX8_join_22 h (fun σ14 h => ?_)
      refine GoC.iinc (w := 1) 3 [(0, G.rv x0), (1, .int x1), (2, .int x2), (3, .int (x3 + 1))] dX8_join_23 rfl (by decide) (by decide) rfl ?_
      refine GoC.goto 10 dX8_join_26 (by decide) ?_
      exact ih _ _ _ _ _ h
set_option maxRecDepth 20000 in
theorem ksX8_join {l : Launch} {G : Gt} {n0 u0 : Nat} {σ : Hp} {Z : Int32 × Hp} (x0 : Nat) (x1 : Int32) (h : kX8_join σ x0 x1 = some Z) : GoC l G RX8 "join" cX8_join 5 (some .int) 2 43 n0 u0 (some (.int Z.1)) Z.2 0 [(0, G.rv x0), (1, .int x1)] [] σ := by
  unfold kX8_join at h
  refine GC.aload_n 0 dX8_join_0 rfl ?_
  refine GC.getr 8 0 rfl (by decide) (by decide) fw_X8_24 (Or.inl rfl) dX8_join_1 h (fun v15 h => ?_)
  refine GC.geti 7 1 rfl (by decide) (by decide) fw_X8_65 (Or.inl rfl) dX8_join_4 h (fun v16 h => ?_)
  refine GoC.istore_n [(0, G.rv x0), (1, .int x1), (2, .int v16)] dX8_join_7 (by decide) rfl ?_
  refine GoC.iconst 0 dX8_join_8 (by decide) ?_
  refine GoC.istore_n [(0, G.rv x0), (1, .int x1), (2, .int v16), (3, .int 0)] dX8_join_9 (by decide) rfl ?_
  exact ksX8_join_10 _ _ _ _ _ _ h
set_option maxRecDepth 20000 in
theorem ktX8_join {l : Launch} {G : Gt} {σ : Hp} (x0 : Nat) (x1 : Int32) : ∀ Z, kX8_join σ x0 x1 = some Z → MtC l G yX8_join cX8_join 5 (some .int) 2 43 [G.rv x0, .int x1] σ (some (.int Z.1)) Z.2 := fun Z h => MtC.at (by decide +kernel) ⟨G.rv_cat _, rfl, trivial⟩ (Nat.le_of_ble_eq_true rfl) (ksX8_join x0 x1 h)
/-! X8_sizeOfGroup -/
def kX8_sizeOfGroup_42 (σ : Hp) (k4 : Nat → Int32 → Int32 → Int32 → Option (Int32)) (x0 : Nat) (x1 : Int32) (x3 : Int32) (y0 : Int32) (y1 : Int32) : Option (Int32) := k4 x0 x1 (y0 + y1) (x3 + 1)
def kX8_sizeOfGroup_41 (σ : Hp) (k4 : Nat → Int32 → Int32 → Int32 → Option (Int32)) (x0 : Nat) (x1 : Int32) (x3 : Int32) (y0 : Int32) : Option (Int32) := kX8_sizeOfGroup_42 σ k4 x0 x1 x3 y0 0
def kX8_sizeOfGroup_4 (σ : Hp)  : Nat → Nat → Int32 → Int32 → Int32 → Option (Int32)
  | 0, _, _, _, _ => none
  | n + 1, x0, x1, x2, x3 => if 40 ≤ x3 then some x2 else (gfr σ 18 800 x0).bind (fun v1 => ckd σ v1 17 ((kX7_has σ v1 x3).bind (fun v2 => if v2 = 0 then kX8_sizeOfGroup_41 σ (kX8_sizeOfGroup_4 σ n) x0 x1 x3 x2 else (gfr σ 18 806 x0).bind (fun v3 => (ald σ 1 v3 x3).bind (fun v4 => (gfr σ 18 806 x0).bind (fun v5 => (ald σ 1 v5 x1).bind (fun v6 => if v4 = v6 then kX8_sizeOfGroup_42 σ (kX8_sizeOfGroup_4 σ n) x0 x1 x3 x2 1 else kX8_sizeOfGroup_41 σ (kX8_sizeOfGroup_4 σ n) x0 x1 x3 x2)))))))
def kX8_sizeOfGroup (σ : Hp) (x0 : Nat) (x1 : Int32) : Option (Int32) := kX8_sizeOfGroup_4 σ FU x0 x1 0 0
set_option maxRecDepth 20000 in
theorem ksX8_sizeOfGroup_42 {l : Launch} {G : Gt} {n0 u0 : Nat} {σ : Hp} {Z : Int32} (k4 : Nat → Int32 → Int32 → Int32 → Option (Int32)) (h4 : ∀ (x0 : Nat) (x1 : Int32) (x2 : Int32) (x3 : Int32), k4 x0 x1 x2 x3 = some Z → GoC l G RX8 "sizeOfGroup" cX8_sizeOfGroup 4 (some .int) 1 21 n0 u0 (some (.int Z)) σ 4 [(0, G.rv x0), (1, .int x1), (2, .int x2), (3, .int x3)] [] σ) (x0 : Nat) (x1 : Int32) (x3 : Int32) (y0 : Int32) (y1 : Int32) (h : kX8_sizeOfGroup_42 σ k4 x0 x1 x3 y0 y1 = some Z) : GoC l G RX8 "sizeOfGroup" cX8_sizeOfGroup 4 (some .int) 1 21 n0 u0 (some (.int Z)) σ 42 [(0, G.rv x0), (1, .int x1), (3, .int x3)] [.int y1, .int y0] σ := by
  unfold kX8_sizeOfGroup_42 at h
  refine GoC.iadd dX8_sizeOfGroup_42 ?_
  refine GoC.istore_n [(0, G.rv x0), (1, .int x1), (2, .int (y0 + y1)), (3, .int x3)] dX8_sizeOfGroup_43 (by decide) rfl ?_
  refine GoC.iinc (w := 1) 3 [(0, G.rv x0), (1, .int x1), (2, .int (y0 + y1)), (3, .int (x3 + 1))] dX8_sizeOfGroup_44 rfl (by decide) (by decide) rfl ?_
  refine GoC.goto 4 dX8_sizeOfGroup_47 (by decide) ?_
  exact h4 _ _ _ _ h
set_option maxRecDepth 20000 in
theorem ksX8_sizeOfGroup_41 {l : Launch} {G : Gt} {n0 u0 : Nat} {σ : Hp} {Z : Int32} (k4 : Nat → Int32 → Int32 → Int32 → Option (Int32)) (h4 : ∀ (x0 : Nat) (x1 : Int32) (x2 : Int32) (x3 : Int32), k4 x0 x1 x2 x3 = some Z → GoC l G RX8 "sizeOfGroup" cX8_sizeOfGroup 4 (some .int) 1 21 n0 u0 (some (.int Z)) σ 4 [(0, G.rv x0), (1, .int x1), (2, .int x2), (3, .int x3)] [] σ) (x0 : Nat) (x1 : Int32) (x3 : Int32) (y0 : Int32) (h : kX8_sizeOfGroup_41 σ k4 x0 x1 x3 y0 = some Z) : GoC l G RX8 "sizeOfGroup" cX8_sizeOfGroup 4 (some .int) 1 21 n0 u0 (some (.int Z)) σ 41 [(0, G.rv x0), (1, .int x1), (3, .int x3)] [.int y0] σ := by
  unfold kX8_sizeOfGroup_41 at h
  refine GoC.iconst 0 dX8_sizeOfGroup_41 (by decide) ?_
  exact ksX8_sizeOfGroup_42 _ h4 _ _ _ _ _ h
set_option maxRecDepth 20000 in
theorem ksX8_sizeOfGroup_4 {l : Launch} {G : Gt} {n0 u0 : Nat} {σ : Hp} {Z : Int32} (n : Nat) : ∀ (x0 : Nat) (x1 : Int32) (x2 : Int32) (x3 : Int32), kX8_sizeOfGroup_4 σ n x0 x1 x2 x3 = some Z → GoC l G RX8 "sizeOfGroup" cX8_sizeOfGroup 4 (some .int) 1 21 n0 u0 (some (.int Z)) σ 4 [(0, G.rv x0), (1, .int x1), (2, .int x2), (3, .int x3)] [] σ := by
  induction n with
  | zero => intro x0 x1 x2 x3 h; rw [kX8_sizeOfGroup_4] at h; cases h
  | succ n ih =>
    intro x0 x1 x2 x3 h
    rw [kX8_sizeOfGroup_4] at h
    refine GoC.iload_n 3 dX8_sizeOfGroup_4 rfl ?_
    refine GoC.bipush 40 dX8_sizeOfGroup_5 (by decide) ?_
    refine GoC.icmp_ge 50 dX8_sizeOfGroup_7 (by decide) h (fun h => ?_) (fun h => ?_)
    · refine GoC.iload_n 2 dX8_sizeOfGroup_50 rfl ?_
      cases h
      exact GoC.iret dX8_sizeOfGroup_51 rfl
    · refine GoC.iload_n 2 dX8_sizeOfGroup_10 rfl ?_
      refine GC.aload_n 0 dX8_sizeOfGroup_11 rfl ?_
      refine GC.getr 8 0 rfl (by decide) (by decide) fw_X8_24 (Or.inl rfl) dX8_sizeOfGroup_12 h (fun v1 h => ?_)
      refine GoC.iload_n 3 dX8_sizeOfGroup_15 rfl ?_
      obtain ⟨h0, h⟩ := ckd_some h
      obtain ⟨v2, hq, h⟩ := Option.bind_eq_some_iff.mp h
      refine GC.callvI (rest := [.int x2]) 7 rfl h0 rfl [.int x3] dX8_sizeOfGroup_16 kk_X8_42 km_X7_has.1 km_X7_has.2 (ktX7_has _ _ _ hq) rfl rfl (Nat.le_of_ble_eq_true rfl) (Nat.le_of_ble_eq_true rfl) ⟨rfl, trivial⟩ (Nat.le_of_ble_eq_true rfl) ?_
      refine GoC.if_eq 41 dX8_sizeOfGroup_19 (by decide) h (fun h => ?_) (fun h => ?_)
      · refine GoC.sub [0, 1, 3] rfl ?_
        exact ksX8_sizeOfGroup_41 _ ih _ _ _ _ h
      · refine GC.aload_n 0 dX8_sizeOfGroup_22 rfl ?_
        refine GC.getr 8 6 rfl (by decide) (by decide) fw_X8_15 (Or.inl rfl) dX8_sizeOfGroup_23 h (fun v3 h => ?_)
        refine GoC.iload_n 3 dX8_sizeOfGroup_26 rfl ?_
        refine GC.iald dX8_sizeOfGroup_27 h (fun v4 h => ?_)
        refine GC.aload_n 0 dX8_sizeOfGroup_28 rfl ?_
        refine GC.getr 8 6 rfl (by decide) (by decide) fw_X8_15 (Or.inl rfl) dX8_sizeOfGroup_29 h (fun v5 h => ?_)
        refine GoC.iload_n 1 dX8_sizeOfGroup_32 rfl ?_
        refine GC.iald dX8_sizeOfGroup_33 h (fun v6 h => ?_)
        refine GoC.icmp_ne 41 dX8_sizeOfGroup_34 (by decide) h (fun h => ?_) (fun h => ?_)
        · refine GoC.sub [0, 1, 3] rfl ?_
          exact ksX8_sizeOfGroup_41 _ ih _ _ _ _ h
        · refine GoC.iconst 1 dX8_sizeOfGroup_37 (by decide) ?_
          refine GoC.goto 42 dX8_sizeOfGroup_38 (by decide) ?_
          refine GoC.sub [0, 1, 3] rfl ?_
          exact ksX8_sizeOfGroup_42 _ ih _ _ _ _ _ h
set_option maxRecDepth 20000 in
theorem ksX8_sizeOfGroup {l : Launch} {G : Gt} {n0 u0 : Nat} {σ : Hp} {Z : Int32} (x0 : Nat) (x1 : Int32) (h : kX8_sizeOfGroup σ x0 x1 = some Z) : GoC l G RX8 "sizeOfGroup" cX8_sizeOfGroup 4 (some .int) 1 21 n0 u0 (some (.int Z)) σ 0 [(0, G.rv x0), (1, .int x1)] [] σ := by
  unfold kX8_sizeOfGroup at h
  refine GoC.iconst 0 dX8_sizeOfGroup_0 (by decide) ?_
  refine GoC.istore_n [(0, G.rv x0), (1, .int x1), (2, .int 0)] dX8_sizeOfGroup_1 (by decide) rfl ?_
  refine GoC.iconst 0 dX8_sizeOfGroup_2 (by decide) ?_
  refine GoC.istore_n [(0, G.rv x0), (1, .int x1), (2, .int 0), (3, .int 0)] dX8_sizeOfGroup_3 (by decide) rfl ?_
  exact ksX8_sizeOfGroup_4 _ _ _ _ _ h
set_option maxRecDepth 20000 in
theorem ktX8_sizeOfGroup {l : Launch} {G : Gt} {σ : Hp} (x0 : Nat) (x1 : Int32) : ∀ Z, kX8_sizeOfGroup σ x0 x1 = some Z → MtC l G yX8_sizeOfGroup cX8_sizeOfGroup 4 (some .int) 1 21 [G.rv x0, .int x1] σ (some (.int Z)) σ := fun Z h => MtC.at (by decide +kernel) ⟨G.rv_cat _, rfl, trivial⟩ (Nat.le_of_ble_eq_true rfl) (ksX8_sizeOfGroup x0 x1 h)
/-! X8_nearestUnchosen -/
def kX8_nearestUnchosen_58 (σ : Hp) (k4 : Nat → Int32 → Int32 → Int32 → Option (Int32)) (x0 : Nat) (x1 : Int32) (x2 : Int32) (x3 : Int32) : Option (Int32) := k4 x0 x1 x2 (x3 + 1)
def kX8_nearestUnchosen_56 (σ : Hp) (k4 : Nat → Int32 → Int32 → Int32 → Option (Int32)) (x0 : Nat) (x1 : Int32) (x3 : Int32) : Option (Int32) := kX8_nearestUnchosen_58 σ k4 x0 x1 x3 x3
def kX8_nearestUnchosen_4 (σ : Hp)  : Nat → Nat → Int32 → Int32 → Int32 → Option (Int32)
  | 0, _, _, _, _ => none
  | n + 1, x0, x1, x2, x3 => if 40 ≤ x3 then some x2 else (gfr σ 18 800 x0).bind (fun v1 => ckd σ v1 17 ((kX7_has σ v1 x3).bind (fun v2 => if v2 = 0 then kX8_nearestUnchosen_58 σ (kX8_nearestUnchosen_4 σ n) x0 x1 x2 x3 else (gfr σ 18 808 x0).bind (fun v3 => (ald σ 1 v3 x3).bind (fun v4 => if v4 = 0 then if x2 = (-1) then kX8_nearestUnchosen_56 σ (kX8_nearestUnchosen_4 σ n) x0 x1 x3 else (gfr σ 18 801 x0).bind (fun v5 => ckd σ v5 11 ((kX1_of σ v5 x1 x3).bind (fun v6 => (gfr σ 18 801 x0).bind (fun v7 => ckd σ v7 11 ((kX1_of σ v7 x1 x2).bind (fun v8 => if v8 ≤ v6 then kX8_nearestUnchosen_58 σ (kX8_nearestUnchosen_4 σ n) x0 x1 x2 x3 else kX8_nearestUnchosen_56 σ (kX8_nearestUnchosen_4 σ n) x0 x1 x3)))))) else kX8_nearestUnchosen_58 σ (kX8_nearestUnchosen_4 σ n) x0 x1 x2 x3)))))
def kX8_nearestUnchosen (σ : Hp) (x0 : Nat) (x1 : Int32) : Option (Int32) := kX8_nearestUnchosen_4 σ FU x0 x1 (-1) 0
set_option maxRecDepth 20000 in
theorem ksX8_nearestUnchosen_58 {l : Launch} {G : Gt} {n0 u0 : Nat} {σ : Hp} {Z : Int32} (k4 : Nat → Int32 → Int32 → Int32 → Option (Int32)) (h4 : ∀ (x0 : Nat) (x1 : Int32) (x2 : Int32) (x3 : Int32), k4 x0 x1 x2 x3 = some Z → GoC l G RX8 "nearestUnchosen" cX8_nearestUnchosen 4 (some .int) 1 22 n0 u0 (some (.int Z)) σ 4 [(0, G.rv x0), (1, .int x1), (2, .int x2), (3, .int x3)] [] σ) (x0 : Nat) (x1 : Int32) (x2 : Int32) (x3 : Int32) (h : kX8_nearestUnchosen_58 σ k4 x0 x1 x2 x3 = some Z) : GoC l G RX8 "nearestUnchosen" cX8_nearestUnchosen 4 (some .int) 1 22 n0 u0 (some (.int Z)) σ 58 [(0, G.rv x0), (1, .int x1), (2, .int x2), (3, .int x3)] [] σ := by
  unfold kX8_nearestUnchosen_58 at h
  refine GoC.iinc (w := 1) 3 [(0, G.rv x0), (1, .int x1), (2, .int x2), (3, .int (x3 + 1))] dX8_nearestUnchosen_58 rfl (by decide) (by decide) rfl ?_
  refine GoC.goto 4 dX8_nearestUnchosen_61 (by decide) ?_
  exact h4 _ _ _ _ h
set_option maxRecDepth 20000 in
theorem ksX8_nearestUnchosen_56 {l : Launch} {G : Gt} {n0 u0 : Nat} {σ : Hp} {Z : Int32} (k4 : Nat → Int32 → Int32 → Int32 → Option (Int32)) (h4 : ∀ (x0 : Nat) (x1 : Int32) (x2 : Int32) (x3 : Int32), k4 x0 x1 x2 x3 = some Z → GoC l G RX8 "nearestUnchosen" cX8_nearestUnchosen 4 (some .int) 1 22 n0 u0 (some (.int Z)) σ 4 [(0, G.rv x0), (1, .int x1), (2, .int x2), (3, .int x3)] [] σ) (x0 : Nat) (x1 : Int32) (x3 : Int32) (h : kX8_nearestUnchosen_56 σ k4 x0 x1 x3 = some Z) : GoC l G RX8 "nearestUnchosen" cX8_nearestUnchosen 4 (some .int) 1 22 n0 u0 (some (.int Z)) σ 56 [(0, G.rv x0), (1, .int x1), (3, .int x3)] [] σ := by
  unfold kX8_nearestUnchosen_56 at h
  refine GoC.iload_n 2 dX8_nearestUnchosen_56 rfl ?_
  refine GoC.istore_n [(0, G.rv x0), (1, .int x1), (2, .int x3), (3, .int x3)] dX8_nearestUnchosen_57 (by decide) rfl ?_
  exact ksX8_nearestUnchosen_58 _ h4 _ _ _ _ h
set_option maxRecDepth 20000 in
theorem ksX8_nearestUnchosen_4 {l : Launch} {G : Gt} {n0 u0 : Nat} {σ : Hp} {Z : Int32} (n : Nat) : ∀ (x0 : Nat) (x1 : Int32) (x2 : Int32) (x3 : Int32), kX8_nearestUnchosen_4 σ n x0 x1 x2 x3 = some Z → GoC l G RX8 "nearestUnchosen" cX8_nearestUnchosen 4 (some .int) 1 22 n0 u0 (some (.int Z)) σ 4 [(0, G.rv x0), (1, .int x1), (2, .int x2), (3, .int x3)] [] σ := by
  induction n with
  | zero => intro x0 x1 x2 x3 h; rw [kX8_nearestUnchosen_4] at h; cases h
  | succ n ih =>
    intro x0 x1 x2 x3 h
    rw [kX8_nearestUnchosen_4] at h
    refine GoC.iload_n 3 dX8_nearestUnchosen_4 rfl ?_
    refine GoC.bipush 40 dX8_nearestUnchosen_5 (by decide) ?_
    refine GoC.icmp_ge 64 dX8_nearestUnchosen_7 (by decide) h (fun h => ?_) (fun h => ?_)
    · refine GoC.iload_n 2 dX8_nearestUnchosen_64 rfl ?_
      cases h
      exact GoC.iret dX8_nearestUnchosen_65 rfl
    · refine GC.aload_n 0 dX8_nearestUnchosen_10 rfl ?_
      refine GC.getr 8 0 rfl (by decide) (by decide) fw_X8_24 (Or.inl rfl) dX8_nearestUnchosen_11 h (fun v1 h => ?_)
      refine GoC.iload_n 3 dX8_nearestUnchosen_14 rfl ?_
      obtain ⟨h0, h⟩ := ckd_some h
      obtain ⟨v2, hq, h⟩ := Option.bind_eq_some_iff.mp h
      refine GC.callvI (rest := []) 7 rfl h0 rfl [.int x3] dX8_nearestUnchosen_15 kk_X8_42 km_X7_has.1 km_X7_has.2 (ktX7_has _ _ _ hq) rfl rfl (Nat.le_of_ble_eq_true rfl) (Nat.le_of_ble_eq_true rfl) trivial (Nat.le_of_ble_eq_true rfl) ?_
      refine GoC.if_eq 58 dX8_nearestUnchosen_18 (by decide) h (fun h => ?_) (fun h => ?_)
      · exact ksX8_nearestUnchosen_58 _ ih _ _ _ _ h
      · refine GC.aload_n 0 dX8_nearestUnchosen_21 rfl ?_
        refine GC.getr 8 8 rfl (by decide) (by decide) fw_X8_21 (Or.inl rfl) dX8_nearestUnchosen_22 h (fun v3 h => ?_)
        refine GoC.iload_n 3 dX8_nearestUnchosen_25 rfl ?_
        refine GC.iald dX8_nearestUnchosen_26 h (fun v4 h => ?_)
        refine GoC.if_ne 58 dX8_nearestUnchosen_27 (by decide) h (fun h => ?_) (fun h => ?_)
        · exact ksX8_nearestUnchosen_58 _ ih _ _ _ _ h
        · refine GoC.iload_n 2 dX8_nearestUnchosen_30 rfl ?_
          refine GoC.iconst (-1) dX8_nearestUnchosen_31 (by decide) ?_
          refine GoC.icmp_eq 56 dX8_nearestUnchosen_32 (by decide) h (fun h => ?_) (fun h => ?_)
          · refine GoC.sub [0, 1, 3] rfl ?_
            exact ksX8_nearestUnchosen_56 _ ih _ _ _ h
          · refine GC.aload_n 0 dX8_nearestUnchosen_35 rfl ?_
            refine GC.getr 8 1 rfl (by decide) (by decide) fw_X8_28 (Or.inl rfl) dX8_nearestUnchosen_36 h (fun v5 h => ?_)
            refine GoC.iload_n 1 dX8_nearestUnchosen_39 rfl ?_
            refine GoC.iload_n 3 dX8_nearestUnchosen_40 rfl ?_
            obtain ⟨h0, h⟩ := ckd_some h
            obtain ⟨v6, hq, h⟩ := Option.bind_eq_some_iff.mp h
            refine GC.callvI (rest := []) 1 rfl h0 rfl [.int x1, .int x3] dX8_nearestUnchosen_41 kk_X8_52 km_X1_of.1 km_X1_of.2 (ktX1_of _ _ _ _ hq) rfl rfl (Nat.le_of_ble_eq_true rfl) (Nat.le_of_ble_eq_true rfl) trivial (Nat.le_of_ble_eq_true rfl) ?_
            refine GC.aload_n 0 dX8_nearestUnchosen_44 rfl ?_
            refine GC.getr 8 1 rfl (by decide) (by decide) fw_X8_28 (Or.inl rfl) dX8_nearestUnchosen_45 h (fun v7 h => ?_)
            refine GoC.iload_n 1 dX8_nearestUnchosen_48 rfl ?_
            refine GoC.iload_n 2 dX8_nearestUnchosen_49 rfl ?_
            obtain ⟨h0, h⟩ := ckd_some h
            obtain ⟨v8, hq, h⟩ := Option.bind_eq_some_iff.mp h
            refine GC.callvI (rest := [.int v6]) 1 rfl h0 rfl [.int x1, .int x2] dX8_nearestUnchosen_50 kk_X8_52 km_X1_of.1 km_X1_of.2 (ktX1_of _ _ _ _ hq) rfl rfl (Nat.le_of_ble_eq_true rfl) (Nat.le_of_ble_eq_true rfl) ⟨rfl, trivial⟩ (Nat.le_of_ble_eq_true rfl) ?_
            refine GoC.icmp_ge 58 dX8_nearestUnchosen_53 (by decide) h (fun h => ?_) (fun h => ?_)
            · exact ksX8_nearestUnchosen_58 _ ih _ _ _ _ h
            · refine GoC.sub [0, 1, 3] rfl ?_
              exact ksX8_nearestUnchosen_56 _ ih _ _ _ h
set_option maxRecDepth 20000 in
theorem ksX8_nearestUnchosen {l : Launch} {G : Gt} {n0 u0 : Nat} {σ : Hp} {Z : Int32} (x0 : Nat) (x1 : Int32) (h : kX8_nearestUnchosen σ x0 x1 = some Z) : GoC l G RX8 "nearestUnchosen" cX8_nearestUnchosen 4 (some .int) 1 22 n0 u0 (some (.int Z)) σ 0 [(0, G.rv x0), (1, .int x1)] [] σ := by
  unfold kX8_nearestUnchosen at h
  refine GoC.iconst (-1) dX8_nearestUnchosen_0 (by decide) ?_
  refine GoC.istore_n [(0, G.rv x0), (1, .int x1), (2, .int (-1))] dX8_nearestUnchosen_1 (by decide) rfl ?_
  refine GoC.iconst 0 dX8_nearestUnchosen_2 (by decide) ?_
  refine GoC.istore_n [(0, G.rv x0), (1, .int x1), (2, .int (-1)), (3, .int 0)] dX8_nearestUnchosen_3 (by decide) rfl ?_
  exact ksX8_nearestUnchosen_4 _ _ _ _ _ h
set_option maxRecDepth 20000 in
theorem ktX8_nearestUnchosen {l : Launch} {G : Gt} {σ : Hp} (x0 : Nat) (x1 : Int32) : ∀ Z, kX8_nearestUnchosen σ x0 x1 = some Z → MtC l G yX8_nearestUnchosen cX8_nearestUnchosen 4 (some .int) 1 22 [G.rv x0, .int x1] σ (some (.int Z)) σ := fun Z h => MtC.at (by decide +kernel) ⟨G.rv_cat _, rfl, trivial⟩ (Nat.le_of_ble_eq_true rfl) (ksX8_nearestUnchosen x0 x1 h)
/-! X8_linkFrom -/
def kX8_linkFrom_82 (k15 : Nat → Int32 → Int32 → Int32 → Hp → Option (Int32 × Hp)) (x0 : Nat) (x4 : Int32) (x5 : Int32) (y0 : Int32) (y1 : Int32) (σ : Hp) : Option (Int32 × Hp) := k15 x0 (y0 + y1) x5 (x4 + 1) σ
def kX8_linkFrom_15  : Nat → Nat → Int32 → Int32 → Int32 → Hp → Option (Int32 × Hp)
  | 0, _, _, _, _, _ => none
  | n + 1, x0, x2, x3, x4, σ => (gfr σ 18 800 x0).bind (fun v1 => (gfi σ 17 701 v1).bind (fun v2 => if v2 ≤ x4 then some (x2, σ) else if 40 ≤ x4 then some (x2, σ) else if x3 = (-1) then some (x2, σ) else (gfr σ 18 805 x0).bind (fun v3 => (ast σ 1 v3 x4 x3).bind (fun σ4 => (gfr σ4 18 808 x0).bind (fun v5 => (ast σ4 1 v5 x3 1).bind (fun σ6 => ckd σ6 x0 18 ((kX8_nearestUnchosen σ6 x0 x3).bind (fun v7 => if v7 = (-1) then kX8_linkFrom_82 (kX8_linkFrom_15 n) x0 x4 v7 x2 0 σ6 else (gfr σ6 18 801 x0).bind (fun v8 => ckd σ6 v8 11 ((kX1_of σ6 v8 x3 v7).bind (fun v9 => kX8_linkFrom_82 (kX8_linkFrom_15 n) x0 x4 v7 x2 v9 σ6)))))))))))
def kX8_linkFrom (σ : Hp) (x0 : Nat) (x1 : Int32) : Option (Int32 × Hp) := (gfr σ 18 808 x0).bind (fun v10 => (kJ7_fill_53178 σ v10 0).bind (fun σ11 => kX8_linkFrom_15 FU x0 0 x1 0 σ11))
set_option maxRecDepth 20000 in
theorem ksX8_linkFrom_82 {l : Launch} {G : Gt} {n0 u0 : Nat} {Z : Int32 × Hp} (k15 : Nat → Int32 → Int32 → Int32 → Hp → Option (Int32 × Hp)) (h15 : ∀ (x0 : Nat) (x2 : Int32) (x3 : Int32) (x4 : Int32) (σ : Hp), k15 x0 x2 x3 x4 σ = some Z → GoC l G RX8 "linkFrom" cX8_linkFrom 6 (some .int) 2 45 n0 u0 (some (.int Z.1)) Z.2 15 [(0, G.rv x0), (2, .int x2), (3, .int x3), (4, .int x4)] [] σ) (x0 : Nat) (x4 : Int32) (x5 : Int32) (y0 : Int32) (y1 : Int32) (σ : Hp) (h : kX8_linkFrom_82 k15 x0 x4 x5 y0 y1 σ = some Z) : GoC l G RX8 "linkFrom" cX8_linkFrom 6 (some .int) 2 45 n0 u0 (some (.int Z.1)) Z.2 82 [(0, G.rv x0), (4, .int x4), (5, .int x5)] [.int y1, .int y0] σ := by
  unfold kX8_linkFrom_82 at h
  refine GoC.iadd dX8_linkFrom_82 ?_
  refine GoC.istore_n [(0, G.rv x0), (2, .int (y0 + y1)), (4, .int x4), (5, .int x5)] dX8_linkFrom_83 (by decide) rfl ?_
  refine GoC.iload 3 dX8_linkFrom_84 rfl ?_
  refine GoC.istore_n [(0, G.rv x0), (2, .int (y0 + y1)), (3, .int x5), (4, .int x4), (5, .int x5)] dX8_linkFrom_86 (by decide) rfl ?_
  refine GoC.iinc (w := 1) 3 [(0, G.rv x0), (2, .int (y0 + y1)), (3, .int x5), (4, .int (x4 + 1)), (5, .int x5)] dX8_linkFrom_87 rfl (by decide) (by decide) rfl ?_
  refine GoC.goto 15 dX8_linkFrom_90 (by decide) ?_
  refine GoC.sub [0, 1, 2, 3] rfl ?_
  exact h15 _ _ _ _ _ h
set_option maxRecDepth 20000 in
theorem ksX8_linkFrom_15 {l : Launch} {G : Gt} {n0 u0 : Nat} {Z : Int32 × Hp} (n : Nat) : ∀ (x0 : Nat) (x2 : Int32) (x3 : Int32) (x4 : Int32) (σ : Hp), kX8_linkFrom_15 n x0 x2 x3 x4 σ = some Z → GoC l G RX8 "linkFrom" cX8_linkFrom 6 (some .int) 2 45 n0 u0 (some (.int Z.1)) Z.2 15 [(0, G.rv x0), (2, .int x2), (3, .int x3), (4, .int x4)] [] σ := by
  induction n with
  | zero => intro x0 x2 x3 x4 σ h; rw [kX8_linkFrom_15] at h; cases h
  | succ n ih =>
    intro x0 x2 x3 x4 σ h
    rw [kX8_linkFrom_15] at h
    refine GoC.iload 3 dX8_linkFrom_15 rfl ?_
    refine GC.aload_n 0 dX8_linkFrom_17 rfl ?_
    refine GC.getr 8 0 rfl (by decide) (by decide) fw_X8_24 (Or.inl rfl) dX8_linkFrom_18 h (fun v1 h => ?_)
    refine GC.geti 7 1 rfl (by decide) (by decide) fw_X8_65 (Or.inl rfl) dX8_linkFrom_21 h (fun v2 h => ?_)
    refine GoC.icmp_ge 93 dX8_linkFrom_24 (by decide) h (fun h => ?_) (fun h => ?_)
    · refine GoC.iload_n 1 dX8_linkFrom_93 rfl ?_
      cases h
      exact GoC.iret dX8_linkFrom_94 rfl
    · refine GoC.iload 3 dX8_linkFrom_27 rfl ?_
      refine GoC.bipush 40 dX8_linkFrom_29 (by decide) ?_
      refine GoC.icmp_ge 93 dX8_linkFrom_31 (by decide) h (fun h => ?_) (fun h => ?_)
      · refine GoC.iload_n 1 dX8_linkFrom_93 rfl ?_
        cases h
        exact GoC.iret dX8_linkFrom_94 rfl
      · refine GoC.iload_n 2 dX8_linkFrom_34 rfl ?_
        refine GoC.iconst (-1) dX8_linkFrom_35 (by decide) ?_
        refine GoC.icmp_eq 93 dX8_linkFrom_36 (by decide) h (fun h => ?_) (fun h => ?_)
        · refine GoC.iload_n 1 dX8_linkFrom_93 rfl ?_
          cases h
          exact GoC.iret dX8_linkFrom_94 rfl
        · refine GC.aload_n 0 dX8_linkFrom_39 rfl ?_
          refine GC.getr 8 5 rfl (by decide) (by decide) fw_X8_9 (Or.inl rfl) dX8_linkFrom_40 h (fun v3 h => ?_)
          refine GoC.iload 3 dX8_linkFrom_43 rfl ?_
          refine GoC.iload_n 2 dX8_linkFrom_45 rfl ?_
          refine GC.iast dX8_linkFrom_46 h (fun σ4 h => ?_)
          refine GC.aload_n 0 dX8_linkFrom_47 rfl ?_
          refine GC.getr 8 8 rfl (by decide) (by decide) fw_X8_21 (Or.inl rfl) dX8_linkFrom_48 h (fun v5 h => ?_)
          refine GoC.iload_n 2 dX8_linkFrom_51 rfl ?_
          refine GoC.iconst 1 dX8_linkFrom_52 (by decide) ?_
          refine GC.iast dX8_linkFrom_53 h (fun σ6 h => ?_)
          refine GC.aload_n 0 dX8_linkFrom_54 rfl ?_
          refine GoC.iload_n 2 dX8_linkFrom_55 rfl ?_
          obtain ⟨h0, h⟩ := ckd_some h
          obtain ⟨v7, hq, h⟩ := Option.bind_eq_some_iff.mp h
          refine GC.callvI (rest := []) 8 rfl h0 rfl [.int x3] dX8_linkFrom_56 kk_X8_92 km_X8_nearestUnchosen.1 km_X8_nearestUnchosen.2 (ktX8_nearestUnchosen _ _ _ hq) rfl rfl (Nat.le_of_ble_eq_true rfl) (Nat.le_of_ble_eq_true rfl) trivial (Nat.le_of_ble_eq_true rfl) ?_
          refine GoC.istore [(0, G.rv x0), (2, .int x2), (3, .int x3), (4, .int x4), (5, .int v7)] dX8_linkFrom_59 (by decide) rfl ?_
          refine GoC.iload_n 1 dX8_linkFrom_61 rfl ?_
          refine GoC.iload 4 dX8_linkFrom_62 rfl ?_
          refine GoC.iconst (-1) dX8_linkFrom_64 (by decide) ?_
          refine GoC.icmp_ne 72 dX8_linkFrom_65 (by decide) h (fun h => ?_) (fun h => ?_)
          · refine GC.aload_n 0 dX8_linkFrom_72 rfl ?_
            refine GC.getr 8 1 rfl (by decide) (by decide) fw_X8_28 (Or.inl rfl) dX8_linkFrom_73 h (fun v8 h => ?_)
            refine GoC.iload_n 2 dX8_linkFrom_76 rfl ?_
            refine GoC.iload 4 dX8_linkFrom_77 rfl ?_
            obtain ⟨h0, h⟩ := ckd_some h
            obtain ⟨v9, hq, h⟩ := Option.bind_eq_some_iff.mp h
            refine GC.callvI (rest := [.int x2]) 1 rfl h0 rfl [.int x3, .int v7] dX8_linkFrom_79 kk_X8_52 km_X1_of.1 km_X1_of.2 (ktX1_of _ _ _ _ hq) rfl rfl (Nat.le_of_ble_eq_true rfl) (Nat.le_of_ble_eq_true rfl) ⟨rfl, trivial⟩ (Nat.le_of_ble_eq_true rfl) ?_
            refine GoC.sub [0, 3, 4] rfl ?_
            exact ksX8_linkFrom_82 _ ih _ _ _ _ _ _ h
          · refine GoC.iconst 0 dX8_linkFrom_68 (by decide) ?_
            refine GoC.goto 82 dX8_linkFrom_69 (by decide) ?_
            refine GoC.sub [0, 3, 4] rfl ?_
            exact ksX8_linkFrom_82 _ ih _ _ _ _ _ _ h
set_option maxRecDepth 20000 in
theorem ksX8_linkFrom {l : Launch} {G : Gt} {n0 u0 : Nat} {σ : Hp} {Z : Int32 × Hp} (x0 : Nat) (x1 : Int32) (h : kX8_linkFrom σ x0 x1 = some Z) : GoC l G RX8 "linkFrom" cX8_linkFrom 6 (some .int) 2 45 n0 u0 (some (.int Z.1)) Z.2 0 [(0, G.rv x0), (1, .int x1)] [] σ := by
  unfold kX8_linkFrom at h
  refine GC.aload_n 0 dX8_linkFrom_0 rfl ?_
  refine GC.getr 8 8 rfl (by decide) (by decide) fw_X8_21 (Or.inl rfl) dX8_linkFrom_1 h (fun v10 h => ?_)
  refine GoC.iconst 0 dX8_linkFrom_4 (by decide) ?_
  obtain ⟨σ11, hq, h⟩ := Option.bind_eq_some_iff.mp h
  refine GC.callsV (rest := []) [G.rv v10, .int 0] dX8_linkFrom_5 kk_X8_75 km_J7_fill_53178 (ktJ7_fill_53178 _ _ _ hq) rfl rfl (Nat.le_of_ble_eq_true rfl) (Nat.le_of_ble_eq_true rfl) trivial (Nat.le_of_ble_eq_true rfl) ?_
  refine GoC.iconst 0 dX8_linkFrom_8 (by decide) ?_
  refine GoC.istore_n [(0, G.rv x0), (1, .int x1), (2, .int 0)] dX8_linkFrom_9 (by decide) rfl ?_
  refine GoC.iload_n 1 dX8_linkFrom_10 rfl ?_
  refine GoC.istore_n [(0, G.rv x0), (1, .int x1), (2, .int 0), (3, .int x1)] dX8_linkFrom_11 (by decide) rfl ?_
  refine GoC.iconst 0 dX8_linkFrom_12 (by decide) ?_
  refine GoC.istore [(0, G.rv x0), (1, .int x1), (2, .int 0), (3, .int x1), (4, .int 0)] dX8_linkFrom_13 (by decide) rfl ?_
  refine GoC.sub [0, 2, 3, 4] rfl ?_
  exact ksX8_linkFrom_15 _ _ _ _ _ _ h
set_option maxRecDepth 20000 in
theorem ktX8_linkFrom {l : Launch} {G : Gt} {σ : Hp} (x0 : Nat) (x1 : Int32) : ∀ Z, kX8_linkFrom σ x0 x1 = some Z → MtC l G yX8_linkFrom cX8_linkFrom 6 (some .int) 2 45 [G.rv x0, .int x1] σ (some (.int Z.1)) Z.2 := fun Z h => MtC.at (by decide +kernel) ⟨G.rv_cat _, rfl, trivial⟩ (Nat.le_of_ble_eq_true rfl) (ksX8_linkFrom x0 x1 h)
/-! X9_init -/
def kX9_init (σ : Hp) (x0 : Nat) (x1 : Nat) (x2 : Nat) : Option (Hp) := (nz x0).bind (fun _ => bd2 (nwA σ 1 40) (fun v1 σ2 => (pfr σ2 19 902 x0 v1).bind (fun σ3 => bd2 (nwA σ3 1 40) (fun v4 σ5 => (pfr σ5 19 903 x0 v4).bind (fun σ6 => bd2 (nwA σ6 2 7) (fun v7 σ8 => (pfr σ8 19 904 x0 v7).bind (fun σ9 => (pfr σ9 19 900 x0 x1).bind (fun σ10 => (pfr σ10 19 901 x0 x2).bind (fun σ11 => some σ11)))))))))
set_option maxRecDepth 20000 in
theorem ksX9_init {l : Launch} {G : Gt} {n0 u0 : Nat} {σ : Hp} {Z : Hp} (x0 : Nat) (x1 : Nat) (x2 : Nat) (h : kX9_init σ x0 x1 x2 = some Z) : GoC l G RX9 "<init>" cX9_init 3 none 1 20 n0 u0 none Z 0 [(0, G.rv x0), (1, G.rv x1), (2, G.rv x2)] [] σ := by
  unfold kX9_init at h
  refine GC.aload_n 0 dX9_init_0 rfl ?_
  obtain ⟨_, h0, h⟩ := Option.bind_eq_some_iff.mp h
  refine GC.oinit (nz_ne h0) oi_X9_3 oi_inst oi_code dX9_init_1 (Nat.le_of_ble_eq_true rfl) trivial (Nat.le_of_ble_eq_true rfl) ?_
  refine GC.aload_n 0 dX9_init_4 rfl ?_
  refine GoC.bipush 40 dX9_init_5 (by decide) ?_
  refine GC.newI ac_int dX9_init_7 h (fun v1 σ2 h => ?_)
  refine GC.putr 9 2 rfl (by decide) (by decide) (Or.inr ⟨_, rfl⟩) fw_X9_9 (Or.inl rfl) (Or.inr ⟨rfl, rfl, rfl⟩) dX9_init_9 h (fun σ3 h => ?_)
  refine GC.aload_n 0 dX9_init_12 rfl ?_
  refine GoC.bipush 40 dX9_init_13 (by decide) ?_
  refine GC.newI ac_int dX9_init_15 h (fun v4 σ5 h => ?_)
  refine GC.putr 9 3 rfl (by decide) (by decide) (Or.inr ⟨_, rfl⟩) fw_X9_15 (Or.inl rfl) (Or.inr ⟨rfl, rfl, rfl⟩) dX9_init_17 h (fun σ6 h => ?_)
  refine GC.aload_n 0 dX9_init_20 rfl ?_
  refine GoC.bipush 7 dX9_init_21 (by decide) ?_
  refine GC.newZ ac_bool dX9_init_23 h (fun v7 σ8 h => ?_)
  refine GC.putr 9 4 rfl (by decide) (by decide) (Or.inr ⟨_, rfl⟩) fw_X9_18 (Or.inl rfl) (Or.inr ⟨rfl, rfl, rfl⟩) dX9_init_25 h (fun σ9 h => ?_)
  refine GC.aload_n 0 dX9_init_28 rfl ?_
  refine GC.aload_n 1 dX9_init_29 rfl ?_
  refine GC.putr 9 0 rfl (by decide) (by decide) (Or.inl ⟨_, rfl⟩) fw_X9_22 (Or.inl rfl) (Or.inr ⟨rfl, rfl, rfl⟩) dX9_init_30 h (fun σ10 h => ?_)
  refine GC.aload_n 0 dX9_init_33 rfl ?_
  refine GC.aload_n 2 dX9_init_34 rfl ?_
  refine GC.putr 9 1 rfl (by decide) (by decide) (Or.inl ⟨_, rfl⟩) fw_X9_26 (Or.inl rfl) (Or.inr ⟨rfl, rfl, rfl⟩) dX9_init_35 h (fun σ11 h => ?_)
  cases h
  exact GoC.vret dX9_init_38 rfl
set_option maxRecDepth 20000 in
theorem ktX9_init {l : Launch} {G : Gt} {σ : Hp} (x0 : Nat) (x1 : Nat) (x2 : Nat) : ∀ Z, kX9_init σ x0 x1 x2 = some Z → MtC l G yX9_init cX9_init 3 none 1 20 [G.rv x0, G.rv x1, G.rv x2] σ none Z := fun Z h => MtC.at (by decide +kernel) ⟨G.rv_cat _, G.rv_cat _, G.rv_cat _, trivial⟩ (Nat.le_of_ble_eq_true rfl) (ksX9_init x0 x1 x2 h)
/-! X9_entryFor -/
def kX9_entryFor_125 (σ : Hp) (k11 : Nat → Nat → Int32 → Int32 → Int32 → Int32 → Int32 → Option (Int32)) (x0 : Nat) (x1 : Nat) (x2 : Int32) (x3 : Int32) (x4 : Int32) (x5 : Int32) (x6 : Int32) : Option (Int32) := k11 x0 x1 x2 x3 x4 x5 (x6 + 1)
def kX9_entryFor_114 (σ : Hp) (k11 : Nat → Nat → Int32 → Int32 → Int32 → Int32 → Int32 → Option (Int32)) (x0 : Nat) (x1 : Nat) (x2 : Int32) (x6 : Int32) (x8 : Int32) (x9 : Int32) : Option (Int32) := kX9_entryFor_125 σ k11 x0 x1 x2 x6 x9 x8 x6
def kX9_entryFor_102 (σ : Hp) (k11 : Nat → Nat → Int32 → Int32 → Int32 → Int32 → Int32 → Option (Int32)) (x0 : Nat) (x1 : Nat) (x2 : Int32) (x3 : Int32) (x4 : Int32) (x5 : Int32) (x6 : Int32) (x8 : Int32) (x9 : Int32) (y0 : Int32) : Option (Int32) := if x6 = 0 then kX9_entryFor_114 σ k11 x0 x1 x2 x6 x8 x9 else if y0 = 0 then kX9_entryFor_125 σ k11 x0 x1 x2 x3 x4 x5 x6 else kX9_entryFor_114 σ k11 x0 x1 x2 x6 x8 x9
def kX9_entryFor_76 (σ : Hp) (k11 : Nat → Nat → Int32 → Int32 → Int32 → Int32 → Int32 → Option (Int32)) (x0 : Nat) (x1 : Nat) (x2 : Int32) (x3 : Int32) (x4 : Int32) (x5 : Int32) (x6 : Int32) (x8 : Int32) (y0 : Int32) : Option (Int32) := if x8 = x5 then if x4 ≤ y0 then kX9_entryFor_102 σ k11 x0 x1 x2 x3 x4 x5 x6 x8 y0 0 else kX9_entryFor_102 σ k11 x0 x1 x2 x3 x4 x5 x6 x8 y0 1 else kX9_entryFor_102 σ k11 x0 x1 x2 x3 x4 x5 x6 x8 y0 x8
def kX9_entryFor_54 (σ : Hp) (k11 : Nat → Nat → Int32 → Int32 → Int32 → Int32 → Int32 → Option (Int32)) (x0 : Nat) (x1 : Nat) (x2 : Int32) (x3 : Int32) (x4 : Int32) (x5 : Int32) (x6 : Int32) (x7 : Int32) (y0 : Int32) : Option (Int32) := if y0 = 0 then (gfr σ 13 304 x1).bind (fun v1 => (ald σ 1 v1 x6).bind (fun v2 => kX9_entryFor_76 σ k11 x0 x1 x2 x3 x4 x5 x6 y0 (x7 - v2))) else kX9_entryFor_76 σ k11 x0 x1 x2 x3 x4 x5 x6 y0 x7
def kX9_entryFor_11 (σ : Hp)  : Nat → Nat → Nat → Int32 → Int32 → Int32 → Int32 → Int32 → Option (Int32)
  | 0, _, _, _, _, _, _, _ => none
  | n + 1, x0, x1, x2, x3, x4, x5, x6 => (gfi σ 13 302 x1).bind (fun v3 => if v3 ≤ x6 then some x3 else (gfr σ 19 901 x0).bind (fun v4 => (gfr σ 13 303 x1).bind (fun v5 => (ald σ 1 v5 x6).bind (fun v6 => ckd σ v4 11 ((kX1_of σ v4 v6 x2).bind (fun v7 => (gfr σ 13 304 x1).bind (fun v8 => (ald σ 1 v8 x6).bind (fun v9 => if v9 < v7 then kX9_entryFor_54 σ (kX9_entryFor_11 σ n) x0 x1 x2 x3 x4 x5 x6 v7 0 else kX9_entryFor_54 σ (kX9_entryFor_11 σ n) x0 x1 x2 x3 x4 x5 x6 v7 1))))))))
def kX9_entryFor (σ : Hp) (x0 : Nat) (x1 : Nat) (x2 : Int32) : Option (Int32) := kX9_entryFor_11 σ FU x0 x1 x2 0 0 0 0
set_option maxRecDepth 20000 in
theorem ksX9_entryFor_125 {l : Launch} {G : Gt} {n0 u0 : Nat} {σ : Hp} {Z : Int32} (k11 : Nat → Nat → Int32 → Int32 → Int32 → Int32 → Int32 → Option (Int32)) (h11 : ∀ (x0 : Nat) (x1 : Nat) (x2 : Int32) (x3 : Int32) (x4 : Int32) (x5 : Int32) (x6 : Int32), k11 x0 x1 x2 x3 x4 x5 x6 = some Z → GoC l G RX9 "entryFor" cX9_entryFor 11 (some .int) 1 22 n0 u0 (some (.int Z)) σ 11 [(0, G.rv x0), (1, G.rv x1), (2, .int x2), (3, .int x3), (4, .int x4), (5, .int x5), (6, .int x6)] [] σ) (x0 : Nat) (x1 : Nat) (x2 : Int32) (x3 : Int32) (x4 : Int32) (x5 : Int32) (x6 : Int32) (h : kX9_entryFor_125 σ k11 x0 x1 x2 x3 x4 x5 x6 = some Z) : GoC l G RX9 "entryFor" cX9_entryFor 11 (some .int) 1 22 n0 u0 (some (.int Z)) σ 125 [(0, G.rv x0), (1, G.rv x1), (2, .int x2), (3, .int x3), (4, .int x4), (5, .int x5), (6, .int x6)] [] σ := by
  unfold kX9_entryFor_125 at h
  refine GoC.iinc (w := 1) 6 [(0, G.rv x0), (1, G.rv x1), (2, .int x2), (3, .int x3), (4, .int x4), (5, .int x5), (6, .int (x6 + 1))] dX9_entryFor_125 rfl (by decide) (by decide) rfl ?_
  refine GoC.goto 11 dX9_entryFor_128 (by decide) ?_
  exact h11 _ _ _ _ _ _ _ h
set_option maxRecDepth 20000 in
theorem ksX9_entryFor_114 {l : Launch} {G : Gt} {n0 u0 : Nat} {σ : Hp} {Z : Int32} (k11 : Nat → Nat → Int32 → Int32 → Int32 → Int32 → Int32 → Option (Int32)) (h11 : ∀ (x0 : Nat) (x1 : Nat) (x2 : Int32) (x3 : Int32) (x4 : Int32) (x5 : Int32) (x6 : Int32), k11 x0 x1 x2 x3 x4 x5 x6 = some Z → GoC l G RX9 "entryFor" cX9_entryFor 11 (some .int) 1 22 n0 u0 (some (.int Z)) σ 11 [(0, G.rv x0), (1, G.rv x1), (2, .int x2), (3, .int x3), (4, .int x4), (5, .int x5), (6, .int x6)] [] σ) (x0 : Nat) (x1 : Nat) (x2 : Int32) (x6 : Int32) (x8 : Int32) (x9 : Int32) (h : kX9_entryFor_114 σ k11 x0 x1 x2 x6 x8 x9 = some Z) : GoC l G RX9 "entryFor" cX9_entryFor 11 (some .int) 1 22 n0 u0 (some (.int Z)) σ 114 [(0, G.rv x0), (1, G.rv x1), (2, .int x2), (6, .int x6), (8, .int x8), (9, .int x9)] [] σ := by
  unfold kX9_entryFor_114 at h
  refine GoC.iload 3 dX9_entryFor_114 rfl ?_
  refine GoC.istore_n [(0, G.rv x0), (1, G.rv x1), (2, .int x2), (3, .int x6), (6, .int x6), (8, .int x8), (9, .int x9)] dX9_entryFor_116 (by decide) rfl ?_
  refine GoC.iload 6 dX9_entryFor_117 rfl ?_
  refine GoC.istore [(0, G.rv x0), (1, G.rv x1), (2, .int x2), (3, .int x6), (4, .int x9), (6, .int x6), (8, .int x8), (9, .int x9)] dX9_entryFor_119 (by decide) rfl ?_
  refine GoC.iload 6 dX9_entryFor_121 rfl ?_
  refine GoC.istore [(0, G.rv x0), (1, G.rv x1), (2, .int x2), (3, .int x6), (4, .int x9), (5, .int x8), (6, .int x6), (8, .int x8), (9, .int x9)] dX9_entryFor_123 (by decide) rfl ?_
  refine GoC.sub [0, 1, 2, 3, 4, 5, 6] rfl ?_
  exact ksX9_entryFor_125 _ h11 _ _ _ _ _ _ _ h
set_option maxRecDepth 20000 in
theorem ksX9_entryFor_102 {l : Launch} {G : Gt} {n0 u0 : Nat} {σ : Hp} {Z : Int32} (k11 : Nat → Nat → Int32 → Int32 → Int32 → Int32 → Int32 → Option (Int32)) (h11 : ∀ (x0 : Nat) (x1 : Nat) (x2 : Int32) (x3 : Int32) (x4 : Int32) (x5 : Int32) (x6 : Int32), k11 x0 x1 x2 x3 x4 x5 x6 = some Z → GoC l G RX9 "entryFor" cX9_entryFor 11 (some .int) 1 22 n0 u0 (some (.int Z)) σ 11 [(0, G.rv x0), (1, G.rv x1), (2, .int x2), (3, .int x3), (4, .int x4), (5, .int x5), (6, .int x6)] [] σ) (x0 : Nat) (x1 : Nat) (x2 : Int32) (x3 : Int32) (x4 : Int32) (x5 : Int32) (x6 : Int32) (x8 : Int32) (x9 : Int32) (y0 : Int32) (h : kX9_entryFor_102 σ k11 x0 x1 x2 x3 x4 x5 x6 x8 x9 y0 = some Z) : GoC l G RX9 "entryFor" cX9_entryFor 11 (some .int) 1 22 n0 u0 (some (.int Z)) σ 102 [(0, G.rv x0), (1, G.rv x1), (2, .int x2), (3, .int x3), (4, .int x4), (5, .int x5), (6, .int x6), (8, .int x8), (9, .int x9)] [.int y0] σ := by
  unfold kX9_entryFor_102 at h
  refine GoC.istore [(0, G.rv x0), (1, G.rv x1), (2, .int x2), (3, .int x3), (4, .int x4), (5, .int x5), (6, .int x6), (8, .int x8), (9, .int x9), (10, .int y0)] dX9_entryFor_102 (by decide) rfl ?_
  refine GoC.iload 6 dX9_entryFor_104 rfl ?_
  refine GoC.if_eq 114 dX9_entryFor_106 (by decide) h (fun h => ?_) (fun h => ?_)
  · refine GoC.sub [0, 1, 2, 6, 7, 8] rfl ?_
    exact ksX9_entryFor_114 _ h11 _ _ _ _ _ _ h
  · refine GoC.iload 9 dX9_entryFor_109 rfl ?_
    refine GoC.if_eq 125 dX9_entryFor_111 (by decide) h (fun h => ?_) (fun h => ?_)
    · refine GoC.sub [0, 1, 2, 3, 4, 5, 6] rfl ?_
      exact ksX9_entryFor_125 _ h11 _ _ _ _ _ _ _ h
    · refine GoC.sub [0, 1, 2, 6, 7, 8] rfl ?_
      exact ksX9_entryFor_114 _ h11 _ _ _ _ _ _ h
set_option maxRecDepth 20000 in
theorem ksX9_entryFor_76 {l : Launch} {G : Gt} {n0 u0 : Nat} {σ : Hp} {Z : Int32} (k11 : Nat → Nat → Int32 → Int32 → Int32 → Int32 → Int32 → Option (Int32)) (h11 : ∀ (x0 : Nat) (x1 : Nat) (x2 : Int32) (x3 : Int32) (x4 : Int32) (x5 : Int32) (x6 : Int32), k11 x0 x1 x2 x3 x4 x5 x6 = some Z → GoC l G RX9 "entryFor" cX9_entryFor 11 (some .int) 1 22 n0 u0 (some (.int Z)) σ 11 [(0, G.rv x0), (1, G.rv x1), (2, .int x2), (3, .int x3), (4, .int x4), (5, .int x5), (6, .int x6)] [] σ) (x0 : Nat) (x1 : Nat) (x2 : Int32) (x3 : Int32) (x4 : Int32) (x5 : Int32) (x6 : Int32) (x8 : Int32) (y0 : Int32) (h : kX9_entryFor_76 σ k11 x0 x1 x2 x3 x4 x5 x6 x8 y0 = some Z) : GoC l G RX9 "entryFor" cX9_entryFor 11 (some .int) 1 22 n0 u0 (some (.int Z)) σ 76 [(0, G.rv x0), (1, G.rv x1), (2, .int x2), (3, .int x3), (4, .int x4), (5, .int x5), (6, .int x6), (8, .int x8)] [.int y0] σ := by
  unfold kX9_entryFor_76 at h
  refine GoC.istore [(0, G.rv x0), (1, G.rv x1), (2, .int x2), (3, .int x3), (4, .int x4), (5, .int x5), (6, .int x6), (8, .int x8), (9, .int y0)] dX9_entryFor_76 (by decide) rfl ?_
  refine GoC.iload 7 dX9_entryFor_78 rfl ?_
  refine GoC.iload 5 dX9_entryFor_80 rfl ?_
  refine GoC.icmp_ne 100 dX9_entryFor_82 (by decide) h (fun h => ?_) (fun h => ?_)
  · refine GoC.iload 7 dX9_entryFor_100 rfl ?_
    exact ksX9_entryFor_102 _ h11 _ _ _ _ _ _ _ _ _ _ h
  · refine GoC.iload 8 dX9_entryFor_85 rfl ?_
    refine GoC.iload 4 dX9_entryFor_87 rfl ?_
    refine GoC.icmp_ge 96 dX9_entryFor_89 (by decide) h (fun h => ?_) (fun h => ?_)
    · refine GoC.iconst 0 dX9_entryFor_96 (by decide) ?_
      refine GoC.goto 102 dX9_entryFor_97 (by decide) ?_
      exact ksX9_entryFor_102 _ h11 _ _ _ _ _ _ _ _ _ _ h
    · refine GoC.iconst 1 dX9_entryFor_92 (by decide) ?_
      refine GoC.goto 102 dX9_entryFor_93 (by decide) ?_
      exact ksX9_entryFor_102 _ h11 _ _ _ _ _ _ _ _ _ _ h
set_option maxRecDepth 20000 in
theorem ksX9_entryFor_54 {l : Launch} {G : Gt} {n0 u0 : Nat} {σ : Hp} {Z : Int32} (k11 : Nat → Nat → Int32 → Int32 → Int32 → Int32 → Int32 → Option (Int32)) (h11 : ∀ (x0 : Nat) (x1 : Nat) (x2 : Int32) (x3 : Int32) (x4 : Int32) (x5 : Int32) (x6 : Int32), k11 x0 x1 x2 x3 x4 x5 x6 = some Z → GoC l G RX9 "entryFor" cX9_entryFor 11 (some .int) 1 22 n0 u0 (some (.int Z)) σ 11 [(0, G.rv x0), (1, G.rv x1), (2, .int x2), (3, .int x3), (4, .int x4), (5, .int x5), (6, .int x6)] [] σ) (x0 : Nat) (x1 : Nat) (x2 : Int32) (x3 : Int32) (x4 : Int32) (x5 : Int32) (x6 : Int32) (x7 : Int32) (y0 : Int32) (h : kX9_entryFor_54 σ k11 x0 x1 x2 x3 x4 x5 x6 x7 y0 = some Z) : GoC l G RX9 "entryFor" cX9_entryFor 11 (some .int) 1 22 n0 u0 (some (.int Z)) σ 54 [(0, G.rv x0), (1, G.rv x1), (2, .int x2), (3, .int x3), (4, .int x4), (5, .int x5), (6, .int x6), (7, .int x7)] [.int y0] σ := by
  unfold kX9_entryFor_54 at h
  refine GoC.istore [(0, G.rv x0), (1, G.rv x1), (2, .int x2), (3, .int x3), (4, .int x4), (5, .int x5), (6, .int x6), (7, .int x7), (8, .int y0)] dX9_entryFor_54 (by decide) rfl ?_
  refine GoC.iload 8 dX9_entryFor_56 rfl ?_
  refine GoC.if_eq 66 dX9_entryFor_58 (by decide) h (fun h => ?_) (fun h => ?_)
  · refine GoC.iload 7 dX9_entryFor_66 rfl ?_
    refine GC.aload_n 1 dX9_entryFor_68 rfl ?_
    refine GC.getr 3 4 rfl (by decide) (by decide) fw_X9_69 (Or.inl rfl) dX9_entryFor_69 h (fun v1 h => ?_)
    refine GoC.iload 6 dX9_entryFor_72 rfl ?_
    refine GC.iald dX9_entryFor_74 h (fun v2 h => ?_)
    refine GoC.isub dX9_entryFor_75 ?_
    refine GoC.sub [0, 1, 2, 3, 4, 5, 6, 8] rfl ?_
    exact ksX9_entryFor_76 _ h11 _ _ _ _ _ _ _ _ _ h
  · refine GoC.iload 7 dX9_entryFor_61 rfl ?_
    refine GoC.goto 76 dX9_entryFor_63 (by decide) ?_
    refine GoC.sub [0, 1, 2, 3, 4, 5, 6, 8] rfl ?_
    exact ksX9_entryFor_76 _ h11 _ _ _ _ _ _ _ _ _ h
set_option maxRecDepth 20000 in
theorem ksX9_entryFor_11 {l : Launch} {G : Gt} {n0 u0 : Nat} {σ : Hp} {Z : Int32} (n : Nat) : ∀ (x0 : Nat) (x1 : Nat) (x2 : Int32) (x3 : Int32) (x4 : Int32) (x5 : Int32) (x6 : Int32), kX9_entryFor_11 σ n x0 x1 x2 x3 x4 x5 x6 = some Z → GoC l G RX9 "entryFor" cX9_entryFor 11 (some .int) 1 22 n0 u0 (some (.int Z)) σ 11 [(0, G.rv x0), (1, G.rv x1), (2, .int x2), (3, .int x3), (4, .int x4), (5, .int x5), (6, .int x6)] [] σ := by
  induction n with
  | zero => intro x0 x1 x2 x3 x4 x5 x6 h; rw [kX9_entryFor_11] at h; cases h
  | succ n ih =>
    intro x0 x1 x2 x3 x4 x5 x6 h
    rw [kX9_entryFor_11] at h
    refine GoC.iload 6 dX9_entryFor_11 rfl ?_
    refine GC.aload_n 1 dX9_entryFor_13 rfl ?_
    refine GC.geti 3 2 rfl (by decide) (by decide) fw_X9_75 (Or.inl rfl) dX9_entryFor_14 h (fun v3 h => ?_)
    refine GoC.icmp_ge 131 dX9_entryFor_17 (by decide) h (fun h => ?_) (fun h => ?_)
    · refine GoC.iload_n 3 dX9_entryFor_131 rfl ?_
      cases h
      exact GoC.iret dX9_entryFor_132 rfl
    · refine GC.aload_n 0 dX9_entryFor_20 rfl ?_
      refine GC.getr 9 1 rfl (by decide) (by decide) fw_X9_26 (Or.inl rfl) dX9_entryFor_21 h (fun v4 h => ?_)
      refine GC.aload_n 1 dX9_entryFor_24 rfl ?_
      refine GC.getr 3 3 rfl (by decide) (by decide) fw_X9_60 (Or.inl rfl) dX9_entryFor_25 h (fun v5 h => ?_)
      refine GoC.iload 6 dX9_entryFor_28 rfl ?_
      refine GC.iald dX9_entryFor_30 h (fun v6 h => ?_)
      refine GoC.iload_n 2 dX9_entryFor_31 rfl ?_
      obtain ⟨h0, h⟩ := ckd_some h
      obtain ⟨v7, hq, h⟩ := Option.bind_eq_some_iff.mp h
      refine GC.callvI (rest := []) 1 rfl h0 rfl [.int v6, .int x2] dX9_entryFor_32 kk_X9_63 km_X1_of.1 km_X1_of.2 (ktX1_of _ _ _ _ hq) rfl rfl (Nat.le_of_ble_eq_true rfl) (Nat.le_of_ble_eq_true rfl) trivial (Nat.le_of_ble_eq_true rfl) ?_
      refine GoC.istore [(0, G.rv x0), (1, G.rv x1), (2, .int x2), (3, .int x3), (4, .int x4), (5, .int x5), (6, .int x6), (7, .int v7)] dX9_entryFor_35 (by decide) rfl ?_
      refine GoC.iload 7 dX9_entryFor_37 rfl ?_
      refine GC.aload_n 1 dX9_entryFor_39 rfl ?_
      refine GC.getr 3 4 rfl (by decide) (by decide) fw_X9_69 (Or.inl rfl) dX9_entryFor_40 h (fun v8 h => ?_)
      refine GoC.iload 6 dX9_entryFor_43 rfl ?_
      refine GC.iald dX9_entryFor_45 h (fun v9 h => ?_)
      refine GoC.icmp_gt 53 dX9_entryFor_46 (by decide) h (fun h => ?_) (fun h => ?_)
      · refine GoC.iconst 0 dX9_entryFor_53 (by decide) ?_
        exact ksX9_entryFor_54 _ ih _ _ _ _ _ _ _ _ _ h
      · refine GoC.iconst 1 dX9_entryFor_49 (by decide) ?_
        refine GoC.goto 54 dX9_entryFor_50 (by decide) ?_
        exact ksX9_entryFor_54 _ ih _ _ _ _ _ _ _ _ _ h
set_option maxRecDepth 20000 in
theorem ksX9_entryFor {l : Launch} {G : Gt} {n0 u0 : Nat} {σ : Hp} {Z : Int32} (x0 : Nat) (x1 : Nat) (x2 : Int32) (h : kX9_entryFor σ x0 x1 x2 = some Z) : GoC l G RX9 "entryFor" cX9_entryFor 11 (some .int) 1 22 n0 u0 (some (.int Z)) σ 0 [(0, G.rv x0), (1, G.rv x1), (2, .int x2)] [] σ := by
  unfold kX9_entryFor at h
  refine GoC.iconst 0 dX9_entryFor_0 (by decide) ?_
  refine GoC.istore_n [(0, G.rv x0), (1, G.rv x1), (2, .int x2), (3, .int 0)] dX9_entryFor_1 (by decide) rfl ?_
  refine GoC.iconst 0 dX9_entryFor_2 (by decide) ?_
  refine GoC.istore [(0, G.rv x0), (1, G.rv x1), (2, .int x2), (3, .int 0), (4, .int 0)] dX9_entryFor_3 (by decide) rfl ?_
  refine GoC.iconst 0 dX9_entryFor_5 (by decide) ?_
  refine GoC.istore [(0, G.rv x0), (1, G.rv x1), (2, .int x2), (3, .int 0), (4, .int 0), (5, .int 0)] dX9_entryFor_6 (by decide) rfl ?_
  refine GoC.iconst 0 dX9_entryFor_8 (by decide) ?_
  refine GoC.istore [(0, G.rv x0), (1, G.rv x1), (2, .int x2), (3, .int 0), (4, .int 0), (5, .int 0), (6, .int 0)] dX9_entryFor_9 (by decide) rfl ?_
  exact ksX9_entryFor_11 _ _ _ _ _ _ _ _ h
set_option maxRecDepth 20000 in
theorem ktX9_entryFor {l : Launch} {G : Gt} {σ : Hp} (x0 : Nat) (x1 : Nat) (x2 : Int32) : ∀ Z, kX9_entryFor σ x0 x1 x2 = some Z → MtC l G yX9_entryFor cX9_entryFor 11 (some .int) 1 22 [G.rv x0, G.rv x1, .int x2] σ (some (.int Z)) σ := fun Z h => MtC.at (by decide +kernel) ⟨G.rv_cat _, G.rv_cat _, rfl, trivial⟩ (Nat.le_of_ble_eq_true rfl) (ksX9_entryFor x0 x1 x2 h)
/-! X9_weigh -/
def kX9_weigh_181 (k13 : Nat → Nat → Int32 → Int32 → Int32 → Hp → Option (Int32 × Hp)) (x0 : Nat) (x1 : Nat) (x2 : Int32) (x3 : Int32) (x4 : Int32) (σ : Hp) : Option (Int32 × Hp) := k13 x0 x1 x2 x3 (x4 + 1) σ
def kX9_weigh_178 (k13 : Nat → Nat → Int32 → Int32 → Int32 → Hp → Option (Int32 × Hp)) (x0 : Nat) (x1 : Nat) (x2 : Int32) (x3 : Int32) (x4 : Int32) (y0 : Nat) (y1 : Int32) (σ : Hp) : Option (Int32 × Hp) := (pfi σ 19 905 y0 y1).bind (fun σ1 => kX9_weigh_181 k13 x0 x1 x2 x3 x4 σ1)
def kX9_weigh_153 (k13 : Nat → Nat → Int32 → Int32 → Int32 → Hp → Option (Int32 × Hp)) (x0 : Nat) (x1 : Nat) (x2 : Int32) (x3 : Int32) (x4 : Int32) (y0 : Nat) (y1 : Int32) (σ : Hp) : Option (Int32 × Hp) := (pfi σ 19 906 y0 y1).bind (fun σ2 => kX9_weigh_181 k13 x0 x1 x2 x3 x4 σ2)
def kX9_weigh_121 (k13 : Nat → Nat → Int32 → Int32 → Int32 → Hp → Option (Int32 × Hp)) (x0 : Nat) (x1 : Nat) (x2 : Int32) (x3 : Int32) (x4 : Int32) (y0 : Int32) (y1 : Int32) (σ : Hp) : Option (Int32 × Hp) := (gfr σ 19 904 x0).bind (fun v3 => (ald σ 2 v3 x4).bind (fun v4 => if v4 = 0 then (gfi σ 19 905 x0).bind (fun v5 => if (y0 + y1) ≤ v5 then (gfi σ 19 905 x0).bind (fun v6 => kX9_weigh_178 k13 x0 x1 x2 x3 x4 x0 v6 σ) else kX9_weigh_178 k13 x0 x1 x2 x3 x4 x0 (y0 + y1) σ) else (gfi σ 19 906 x0).bind (fun v7 => if (y0 + y1) ≤ v7 then (gfi σ 19 906 x0).bind (fun v8 => kX9_weigh_153 k13 x0 x1 x2 x3 x4 x0 v8 σ) else kX9_weigh_153 k13 x0 x1 x2 x3 x4 x0 (y0 + y1) σ)))
def kX9_weigh_96 (k13 : Nat → Nat → Int32 → Int32 → Int32 → Hp → Option (Int32 × Hp)) (x0 : Nat) (x1 : Nat) (x2 : Int32) (x3 : Int32) (x4 : Int32) (x5 : Int32) (x6 : Int32) (y0 : Nat) (y1 : Int32) (y2 : Int32) (σ : Hp) : Option (Int32 × Hp) := (ast σ 2 y0 y1 (vp_nar .boolean y2)).bind (fun σ9 => (gfr σ9 13 304 x1).bind (fun v10 => (ald σ9 1 v10 x4).bind (fun v11 => (gfr σ9 19 904 x0).bind (fun v12 => (ald σ9 2 v12 x4).bind (fun v13 => if v13 = 0 then kX9_weigh_121 k13 x0 x1 x2 x3 x4 v11 x5 σ9 else kX9_weigh_121 k13 x0 x1 x2 x3 x4 v11 x6 σ9)))))
def kX9_weigh_95 (k13 : Nat → Nat → Int32 → Int32 → Int32 → Hp → Option (Int32 × Hp)) (x0 : Nat) (x1 : Nat) (x2 : Int32) (x3 : Int32) (x4 : Int32) (x5 : Int32) (x6 : Int32) (y0 : Nat) (y1 : Int32) (σ : Hp) : Option (Int32 × Hp) := kX9_weigh_96 k13 x0 x1 x2 x3 x4 x5 x6 y0 y1 0 σ
def kX9_weigh_91 (k13 : Nat → Nat → Int32 → Int32 → Int32 → Hp → Option (Int32 × Hp)) (x0 : Nat) (x1 : Nat) (x2 : Int32) (x3 : Int32) (x4 : Int32) (x5 : Int32) (x6 : Int32) (y0 : Nat) (y1 : Int32) (σ : Hp) : Option (Int32 × Hp) := kX9_weigh_96 k13 x0 x1 x2 x3 x4 x5 x6 y0 y1 1 σ
def kX9_weigh_13  : Nat → Nat → Nat → Int32 → Int32 → Int32 → Hp → Option (Int32 × Hp)
  | 0, _, _, _, _, _, _ => none
  | n + 1, x0, x1, x2, x3, x4, σ => (gfi σ 13 302 x1).bind (fun v14 => if v14 ≤ x4 then (gfi σ 19 905 x0).bind (fun v15 => (gfi σ 19 906 x0).bind (fun v16 => if v15 ≤ v16 then (gfi σ 19 906 x0).bind (fun v17 => some (v17, σ)) else (gfi σ 19 905 x0).bind (fun v18 => some (v18, σ)))) else (gfr σ 19 901 x0).bind (fun v19 => (gfr σ 13 303 x1).bind (fun v20 => (ald σ 1 v20 x2).bind (fun v21 => (gfr σ 13 303 x1).bind (fun v22 => (ald σ 1 v22 x4).bind (fun v23 => ckd σ v19 11 ((kX1_of σ v19 v21 v23).bind (fun v24 => (gfr σ 19 901 x0).bind (fun v25 => (gfr σ 13 303 x1).bind (fun v26 => (ald σ 1 v26 x3).bind (fun v27 => (gfr σ 13 303 x1).bind (fun v28 => (ald σ 1 v28 x4).bind (fun v29 => ckd σ v25 11 ((kX1_of σ v25 v27 v29).bind (fun v30 => (gfr σ 19 904 x0).bind (fun v31 => if x4 = x3 then kX9_weigh_91 (kX9_weigh_13 n) x0 x1 x2 x3 x4 v24 v30 v31 x4 σ else if x4 = x2 then kX9_weigh_95 (kX9_weigh_13 n) x0 x1 x2 x3 x4 v24 v30 v31 x4 σ else if v24 ≤ v30 then kX9_weigh_95 (kX9_weigh_13 n) x0 x1 x2 x3 x4 v24 v30 v31 x4 σ else kX9_weigh_91 (kX9_weigh_13 n) x0 x1 x2 x3 x4 v24 v30 v31 x4 σ))))))))))))))))
def kX9_weigh (σ : Hp) (x0 : Nat) (x1 : Nat) (x2 : Int32) (x3 : Int32) : Option (Int32 × Hp) := (pfi σ 19 905 x0 0).bind (fun σ32 => (pfi σ32 19 906 x0 0).bind (fun σ33 => kX9_weigh_13 FU x0 x1 x2 x3 0 σ33))
set_option maxRecDepth 20000 in
theorem ksX9_weigh_181 {l : Launch} {G : Gt} {n0 u0 : Nat} {Z : Int32 × Hp} (k13 : Nat → Nat → Int32 → Int32 → Int32 → Hp → Option (Int32 × Hp)) (h13 : ∀ (x0 : Nat) (x1 : Nat) (x2 : Int32) (x3 : Int32) (x4 : Int32) (σ : Hp), k13 x0 x1 x2 x3 x4 σ = some Z → GoC l G RX9 "weigh" cX9_weigh 8 (some .int) 1 22 n0 u0 (some (.int Z.1)) Z.2 13 [(0, G.rv x0), (1, G.rv x1), (2, .int x2), (3, .int x3), (4, .int x4)] [] σ) (x0 : Nat) (x1 : Nat) (x2 : Int32) (x3 : Int32) (x4 : Int32) (σ : Hp) (h : kX9_weigh_181 k13 x0 x1 x2 x3 x4 σ = some Z) : GoC l G RX9 "weigh" cX9_weigh 8 (some .int) 1 22 n0 u0 (some (.int Z.1)) Z.2 181 [(0, G.rv x0), (1, G.rv x1), (2, .int x2), (3, .int x3), (4, .int x4)] [] σ := by
  unfold kX9_weigh_181 at h
  refine GoC.iinc (w := 1) 4 [(0, G.rv x0), (1, G.rv x1), (2, .int x2), (3, .int x3), (4, .int (x4 + 1))] dX9_weigh_181 rfl (by decide) (by decide) rfl ?_
  refine GoC.goto 13 dX9_weigh_184 (by decide) ?_
  exact h13 _ _ _ _ _ _ h
set_option maxRecDepth 20000 in
theorem ksX9_weigh_178 {l : Launch} {G : Gt} {n0 u0 : Nat} {Z : Int32 × Hp} (k13 : Nat → Nat → Int32 → Int32 → Int32 → Hp → Option (Int32 × Hp)) (h13 : ∀ (x0 : Nat) (x1 : Nat) (x2 : Int32) (x3 : Int32) (x4 : Int32) (σ : Hp), k13 x0 x1 x2 x3 x4 σ = some Z → GoC l G RX9 "weigh" cX9_weigh 8 (some .int) 1 22 n0 u0 (some (.int Z.1)) Z.2 13 [(0, G.rv x0), (1, G.rv x1), (2, .int x2), (3, .int x3), (4, .int x4)] [] σ) (x0 : Nat) (x1 : Nat) (x2 : Int32) (x3 : Int32) (x4 : Int32) (y0 : Nat) (y1 : Int32) (σ : Hp) (h : kX9_weigh_178 k13 x0 x1 x2 x3 x4 y0 y1 σ = some Z) : GoC l G RX9 "weigh" cX9_weigh 8 (some .int) 1 22 n0 u0 (some (.int Z.1)) Z.2 178 [(0, G.rv x0), (1, G.rv x1), (2, .int x2), (3, .int x3), (4, .int x4)] [.int y1, G.rv y0] σ := by
  unfold kX9_weigh_178 at h
  refine GC.puti 9 5 rfl (by decide) (by decide) (rfl) fw_X9_92 (Or.inl rfl) (Or.inl rfl) dX9_weigh_178 h (fun σ1 h => ?_)
  exact ksX9_weigh_181 _ h13 _ _ _ _ _ _ h
set_option maxRecDepth 20000 in
theorem ksX9_weigh_153 {l : Launch} {G : Gt} {n0 u0 : Nat} {Z : Int32 × Hp} (k13 : Nat → Nat → Int32 → Int32 → Int32 → Hp → Option (Int32 × Hp)) (h13 : ∀ (x0 : Nat) (x1 : Nat) (x2 : Int32) (x3 : Int32) (x4 : Int32) (σ : Hp), k13 x0 x1 x2 x3 x4 σ = some Z → GoC l G RX9 "weigh" cX9_weigh 8 (some .int) 1 22 n0 u0 (some (.int Z.1)) Z.2 13 [(0, G.rv x0), (1, G.rv x1), (2, .int x2), (3, .int x3), (4, .int x4)] [] σ) (x0 : Nat) (x1 : Nat) (x2 : Int32) (x3 : Int32) (x4 : Int32) (y0 : Nat) (y1 : Int32) (σ : Hp) (h : kX9_weigh_153 k13 x0 x1 x2 x3 x4 y0 y1 σ = some Z) : GoC l G RX9 "weigh" cX9_weigh 8 (some .int) 1 22 n0 u0 (some (.int Z.1)) Z.2 153 [(0, G.rv x0), (1, G.rv x1), (2, .int x2), (3, .int x3), (4, .int x4)] [.int y1, G.rv y0] σ := by
  unfold kX9_weigh_153 at h
  refine GC.puti 9 6 rfl (by decide) (by decide) (rfl) fw_X9_101 (Or.inl rfl) (Or.inl rfl) dX9_weigh_153 h (fun σ2 h => ?_)
  refine GoC.goto 181 dX9_weigh_156 (by decide) ?_
  exact ksX9_weigh_181 _ h13 _ _ _ _ _ _ h
set_option maxRecDepth 20000 in
theorem ksX9_weigh_121 {l : Launch} {G : Gt} {n0 u0 : Nat} {Z : Int32 × Hp} (k13 : Nat → Nat → Int32 → Int32 → Int32 → Hp → Option (Int32 × Hp)) (h13 : ∀ (x0 : Nat) (x1 : Nat) (x2 : Int32) (x3 : Int32) (x4 : Int32) (σ : Hp), k13 x0 x1 x2 x3 x4 σ = some Z → GoC l G RX9 "weigh" cX9_weigh 8 (some .int) 1 22 n0 u0 (some (.int Z.1)) Z.2 13 [(0, G.rv x0), (1, G.rv x1), (2, .int x2), (3, .int x3), (4, .int x4)] [] σ) (x0 : Nat) (x1 : Nat) (x2 : Int32) (x3 : Int32) (x4 : Int32) (y0 : Int32) (y1 : Int32) (σ : Hp) (h : kX9_weigh_121 k13 x0 x1 x2 x3 x4 y0 y1 σ = some Z) : GoC l G RX9 "weigh" cX9_weigh 8 (some .int) 1 22 n0 u0 (some (.int Z.1)) Z.2 121 [(0, G.rv x0), (1, G.rv x1), (2, .int x2), (3, .int x3), (4, .int x4)] [.int y1, .int y0] σ := by
  unfold kX9_weigh_121 at h
  refine GoC.iadd dX9_weigh_121 ?_
  refine GoC.istore [(0, G.rv x0), (1, G.rv x1), (2, .int x2), (3, .int x3), (4, .int x4), (7, .int (y0 + y1))] dX9_weigh_122 (by decide) rfl ?_
  refine GC.aload_n 0 dX9_weigh_124 rfl ?_
  refine GC.getr 9 4 rfl (by decide) (by decide) fw_X9_18 (Or.inl rfl) dX9_weigh_125 h (fun v3 h => ?_)
  refine GoC.iload 4 dX9_weigh_128 rfl ?_
  refine GC.zald dX9_weigh_130 h (fun v4 h => ?_)
  refine GoC.if_eq 159 dX9_weigh_131 (by decide) h (fun h => ?_) (fun h => ?_)
  · refine GC.aload_n 0 dX9_weigh_159 rfl ?_
    refine GoC.iload 5 dX9_weigh_160 rfl ?_
    refine GC.aload_n 0 dX9_weigh_162 rfl ?_
    refine GC.geti 9 5 rfl (by decide) (by decide) fw_X9_92 (Or.inl rfl) dX9_weigh_163 h (fun v5 h => ?_)
    refine GoC.icmp_le 174 dX9_weigh_166 (by decide) h (fun h => ?_) (fun h => ?_)
    · refine GC.aload_n 0 dX9_weigh_174 rfl ?_
      refine GC.geti 9 5 rfl (by decide) (by decide) fw_X9_92 (Or.inl rfl) dX9_weigh_175 h (fun v6 h => ?_)
      refine GoC.sub [0, 1, 2, 3, 4] rfl ?_
      exact ksX9_weigh_178 _ h13 _ _ _ _ _ _ _ _ h
    · refine GoC.iload 5 dX9_weigh_169 rfl ?_
      refine GoC.goto 178 dX9_weigh_171 (by decide) ?_
      refine GoC.sub [0, 1, 2, 3, 4] rfl ?_
      exact ksX9_weigh_178 _ h13 _ _ _ _ _ _ _ _ h
  · refine GC.aload_n 0 dX9_weigh_134 rfl ?_
    refine GoC.iload 5 dX9_weigh_135 rfl ?_
    refine GC.aload_n 0 dX9_weigh_137 rfl ?_
    refine GC.geti 9 6 rfl (by decide) (by decide) fw_X9_101 (Or.inl rfl) dX9_weigh_138 h (fun v7 h => ?_)
    refine GoC.icmp_le 149 dX9_weigh_141 (by decide) h (fun h => ?_) (fun h => ?_)
    · refine GC.aload_n 0 dX9_weigh_149 rfl ?_
      refine GC.geti 9 6 rfl (by decide) (by decide) fw_X9_101 (Or.inl rfl) dX9_weigh_150 h (fun v8 h => ?_)
      refine GoC.sub [0, 1, 2, 3, 4] rfl ?_
      exact ksX9_weigh_153 _ h13 _ _ _ _ _ _ _ _ h
    · refine GoC.iload 5 dX9_weigh_144 rfl ?_
      refine GoC.goto 153 dX9_weigh_146 (by decide) ?_
      refine GoC.sub [0, 1, 2, 3, 4] rfl ?_
      exact ksX9_weigh_153 _ h13 _ _ _ _ _ _ _ _ h
set_option maxRecDepth 20000 in
theorem ksX9_weigh_96 {l : Launch} {G : Gt} {n0 u0 : Nat} {Z : Int32 × Hp} (k13 : Nat → Nat → Int32 → Int32 → Int32 → Hp → Option (Int32 × Hp)) (h13 : ∀ (x0 : Nat) (x1 : Nat) (x2 : Int32) (x3 : Int32) (x4 : Int32) (σ : Hp), k13 x0 x1 x2 x3 x4 σ = some Z → GoC l G RX9 "weigh" cX9_weigh 8 (some .int) 1 22 n0 u0 (some (.int Z.1)) Z.2 13 [(0, G.rv x0), (1, G.rv x1), (2, .int x2), (3, .int x3), (4, .int x4)] [] σ) (x0 : Nat) (x1 : Nat) (x2 : Int32) (x3 : Int32) (x4 : Int32) (x5 : Int32) (x6 : Int32) (y0 : Nat) (y1 : Int32) (y2 : Int32) (σ : Hp) (h : kX9_weigh_96 k13 x0 x1 x2 x3 x4 x5 x6 y0 y1 y2 σ = some Z) : GoC l G RX9 "weigh" cX9_weigh 8 (some .int) 1 22 n0 u0 (some (.int Z.1)) Z.2 96 [(0, G.rv x0), (1, G.rv x1), (2, .int x2), (3, .int x3), (4, .int x4), (5, .int x5), (6, .int x6)] [.int y2, .int y1, G.rv y0] σ := by
  unfold kX9_weigh_96 at h
  refine GC.zast dX9_weigh_96 h (fun σ9 h => ?_)
  refine GC.aload_n 1 dX9_weigh_97 rfl ?_
  refine GC.getr 3 4 rfl (by decide) (by decide) fw_X9_69 (Or.inl rfl) dX9_weigh_98 h (fun v10 h => ?_)
  refine GoC.iload 4 dX9_weigh_101 rfl ?_
  refine GC.iald dX9_weigh_103 h (fun v11 h => ?_)
  refine GC.aload_n 0 dX9_weigh_104 rfl ?_
  refine GC.getr 9 4 rfl (by decide) (by decide) fw_X9_18 (Or.inl rfl) dX9_weigh_105 h (fun v12 h => ?_)
  refine GoC.iload 4 dX9_weigh_108 rfl ?_
  refine GC.zald dX9_weigh_110 h (fun v13 h => ?_)
  refine GoC.if_eq 119 dX9_weigh_111 (by decide) h (fun h => ?_) (fun h => ?_)
  · refine GoC.iload 5 dX9_weigh_119 rfl ?_
    refine GoC.sub [0, 1, 2, 3, 4] rfl ?_
    exact ksX9_weigh_121 _ h13 _ _ _ _ _ _ _ _ h
  · refine GoC.iload 6 dX9_weigh_114 rfl ?_
    refine GoC.goto 121 dX9_weigh_116 (by decide) ?_
    refine GoC.sub [0, 1, 2, 3, 4] rfl ?_
    exact ksX9_weigh_121 _ h13 _ _ _ _ _ _ _ _ h
set_option maxRecDepth 20000 in
theorem ksX9_weigh_95 {l : Launch} {G : Gt} {n0 u0 : Nat} {Z : Int32 × Hp} (k13 : Nat → Nat → Int32 → Int32 → Int32 → Hp → Option (Int32 × Hp)) (h13 : ∀ (x0 : Nat) (x1 : Nat) (x2 : Int32) (x3 : Int32) (x4 : Int32) (σ : Hp), k13 x0 x1 x2 x3 x4 σ = some Z → GoC l G RX9 "weigh" cX9_weigh 8 (some .int) 1 22 n0 u0 (some (.int Z.1)) Z.2 13 [(0, G.rv x0), (1, G.rv x1), (2, .int x2), (3, .int x3), (4, .int x4)] [] σ) (x0 : Nat) (x1 : Nat) (x2 : Int32) (x3 : Int32) (x4 : Int32) (x5 : Int32) (x6 : Int32) (y0 : Nat) (y1 : Int32) (σ : Hp) (h : kX9_weigh_95 k13 x0 x1 x2 x3 x4 x5 x6 y0 y1 σ = some Z) : GoC l G RX9 "weigh" cX9_weigh 8 (some .int) 1 22 n0 u0 (some (.int Z.1)) Z.2 95 [(0, G.rv x0), (1, G.rv x1), (2, .int x2), (3, .int x3), (4, .int x4), (5, .int x5), (6, .int x6)] [.int y1, G.rv y0] σ := by
  unfold kX9_weigh_95 at h
  refine GoC.iconst 0 dX9_weigh_95 (by decide) ?_
  exact ksX9_weigh_96 _ h13 _ _ _ _ _ _ _ _ _ _ _ h
set_option maxRecDepth 20000 in
theorem ksX9_weigh_91 {l : Launch} {G : Gt} {n0 u0 : Nat} {Z : Int32 × Hp} (k13 : Nat → Nat → Int32 → Int32 → Int32 → Hp → Option (Int32 × Hp)) (h13 : ∀ (x0 : Nat) (x1 : Nat) (x2 : Int32) (x3 : Int32) (x4 : Int32) (σ : Hp), k13 x0 x1 x2 x3 x4 σ = some Z → GoC l G RX9 "weigh" cX9_weigh 8 (some .int) 1 22 n0 u0 (some (.int Z.1)) Z.2 13 [(0, G.rv x0), (1, G.rv x1), (2, .int x2), (3, .int x3), (4, .int x4)] [] σ) (x0 : Nat) (x1 : Nat) (x2 : Int32) (x3 : Int32) (x4 : Int32) (x5 : Int32) (x6 : Int32) (y0 : Nat) (y1 : Int32) (σ : Hp) (h : kX9_weigh_91 k13 x0 x1 x2 x3 x4 x5 x6 y0 y1 σ = some Z) : GoC l G RX9 "weigh" cX9_weigh 8 (some .int) 1 22 n0 u0 (some (.int Z.1)) Z.2 91 [(0, G.rv x0), (1, G.rv x1), (2, .int x2), (3, .int x3), (4, .int x4), (5, .int x5), (6, .int x6)] [.int y1, G.rv y0] σ := by
  unfold kX9_weigh_91 at h
  refine GoC.iconst 1 dX9_weigh_91 (by decide) ?_
  refine GoC.goto 96 dX9_weigh_92 (by decide) ?_
  exact ksX9_weigh_96 _ h13 _ _ _ _ _ _ _ _ _ _ _ h
set_option maxRecDepth 20000 in
theorem ksX9_weigh_13 {l : Launch} {G : Gt} {n0 u0 : Nat} {Z : Int32 × Hp} (n : Nat) : ∀ (x0 : Nat) (x1 : Nat) (x2 : Int32) (x3 : Int32) (x4 : Int32) (σ : Hp), kX9_weigh_13 n x0 x1 x2 x3 x4 σ = some Z → GoC l G RX9 "weigh" cX9_weigh 8 (some .int) 1 22 n0 u0 (some (.int Z.1)) Z.2 13 [(0, G.rv x0), (1, G.rv x1), (2, .int x2), (3, .int x3), (4, .int x4)] [] σ := by
  induction n with
  | zero => intro x0 x1 x2 x3 x4 σ h; rw [kX9_weigh_13] at h; cases h
  | succ n ih =>
    intro x0 x1 x2 x3 x4 σ h
    rw [kX9_weigh_13] at h
    refine GoC.iload 4 dX9_weigh_13 rfl ?_
    refine GC.aload_n 1 dX9_weigh_15 rfl ?_
    refine GC.geti 3 2 rfl (by decide) (by decide) fw_X9_75 (Or.inl rfl) dX9_weigh_16 h (fun v14 h => ?_)
    refine GoC.icmp_ge 187 dX9_weigh_19 (by decide) h (fun h => ?_) (fun h => ?_)
    · refine GC.aload_n 0 dX9_weigh_187 rfl ?_
      refine GC.geti 9 5 rfl (by decide) (by decide) fw_X9_92 (Or.inl rfl) dX9_weigh_188 h (fun v15 h => ?_)
      refine GC.aload_n 0 dX9_weigh_191 rfl ?_
      refine GC.geti 9 6 rfl (by decide) (by decide) fw_X9_101 (Or.inl rfl) dX9_weigh_192 h (fun v16 h => ?_)
      refine GoC.icmp_le 205 dX9_weigh_195 (by decide) h (fun h => ?_) (fun h => ?_)
      · refine GC.aload_n 0 dX9_weigh_205 rfl ?_
        refine GC.geti 9 6 rfl (by decide) (by decide) fw_X9_101 (Or.inl rfl) dX9_weigh_206 h (fun v17 h => ?_)
        cases h
        exact GoC.iret dX9_weigh_209 rfl
      · refine GC.aload_n 0 dX9_weigh_198 rfl ?_
        refine GC.geti 9 5 rfl (by decide) (by decide) fw_X9_92 (Or.inl rfl) dX9_weigh_199 h (fun v18 h => ?_)
        refine GoC.goto 209 dX9_weigh_202 (by decide) ?_
        cases h
        exact GoC.iret dX9_weigh_209 rfl
    · refine GC.aload_n 0 dX9_weigh_22 rfl ?_
      refine GC.getr 9 1 rfl (by decide) (by decide) fw_X9_26 (Or.inl rfl) dX9_weigh_23 h (fun v19 h => ?_)
      refine GC.aload_n 1 dX9_weigh_26 rfl ?_
      refine GC.getr 3 3 rfl (by decide) (by decide) fw_X9_60 (Or.inl rfl) dX9_weigh_27 h (fun v20 h => ?_)
      refine GoC.iload_n 2 dX9_weigh_30 rfl ?_
      refine GC.iald dX9_weigh_31 h (fun v21 h => ?_)
      refine GC.aload_n 1 dX9_weigh_32 rfl ?_
      refine GC.getr 3 3 rfl (by decide) (by decide) fw_X9_60 (Or.inl rfl) dX9_weigh_33 h (fun v22 h => ?_)
      refine GoC.iload 4 dX9_weigh_36 rfl ?_
      refine GC.iald dX9_weigh_38 h (fun v23 h => ?_)
      obtain ⟨h0, h⟩ := ckd_some h
      obtain ⟨v24, hq, h⟩ := Option.bind_eq_some_iff.mp h
      refine GC.callvI (rest := []) 1 rfl h0 rfl [.int v21, .int v23] dX9_weigh_39 kk_X9_63 km_X1_of.1 km_X1_of.2 (ktX1_of _ _ _ _ hq) rfl rfl (Nat.le_of_ble_eq_true rfl) (Nat.le_of_ble_eq_true rfl) trivial (Nat.le_of_ble_eq_true rfl) ?_
      refine GoC.istore [(0, G.rv x0), (1, G.rv x1), (2, .int x2), (3, .int x3), (4, .int x4), (5, .int v24)] dX9_weigh_42 (by decide) rfl ?_
      refine GC.aload_n 0 dX9_weigh_44 rfl ?_
      refine GC.getr 9 1 rfl (by decide) (by decide) fw_X9_26 (Or.inl rfl) dX9_weigh_45 h (fun v25 h => ?_)
      refine GC.aload_n 1 dX9_weigh_48 rfl ?_
      refine GC.getr 3 3 rfl (by decide) (by decide) fw_X9_60 (Or.inl rfl) dX9_weigh_49 h (fun v26 h => ?_)
      refine GoC.iload_n 3 dX9_weigh_52 rfl ?_
      refine GC.iald dX9_weigh_53 h (fun v27 h => ?_)
      refine GC.aload_n 1 dX9_weigh_54 rfl ?_
      refine GC.getr 3 3 rfl (by decide) (by decide) fw_X9_60 (Or.inl rfl) dX9_weigh_55 h (fun v28 h => ?_)
      refine GoC.iload 4 dX9_weigh_58 rfl ?_
      refine GC.iald dX9_weigh_60 h (fun v29 h => ?_)
      obtain ⟨h0, h⟩ := ckd_some h
      obtain ⟨v30, hq, h⟩ := Option.bind_eq_some_iff.mp h
      refine GC.callvI (rest := []) 1 rfl h0 rfl [.int v27, .int v29] dX9_weigh_61 kk_X9_63 km_X1_of.1 km_X1_of.2 (ktX1_of _ _ _ _ hq) rfl rfl (Nat.le_of_ble_eq_true rfl) (Nat.le_of_ble_eq_true rfl) trivial (Nat.le_of_ble_eq_true rfl) ?_
      refine GoC.istore [(0, G.rv x0), (1, G.rv x1), (2, .int x2), (3, .int x3), (4, .int x4), (5, .int v24), (6, .int v30)] dX9_weigh_64 (by decide) rfl ?_
      refine GC.aload_n 0 dX9_weigh_66 rfl ?_
      refine GC.getr 9 4 rfl (by decide) (by decide) fw_X9_18 (Or.inl rfl) dX9_weigh_67 h (fun v31 h => ?_)
      refine GoC.iload 4 dX9_weigh_70 rfl ?_
      refine GoC.iload 4 dX9_weigh_72 rfl ?_
      refine GoC.iload_n 3 dX9_weigh_74 rfl ?_
      refine GoC.icmp_eq 91 dX9_weigh_75 (by decide) h (fun h => ?_) (fun h => ?_)
      · exact ksX9_weigh_91 _ ih _ _ _ _ _ _ _ _ _ _ h
      · refine GoC.iload 4 dX9_weigh_78 rfl ?_
        refine GoC.iload_n 2 dX9_weigh_80 rfl ?_
        refine GoC.icmp_eq 95 dX9_weigh_81 (by decide) h (fun h => ?_) (fun h => ?_)
        · exact ksX9_weigh_95 _ ih _ _ _ _ _ _ _ _ _ _ h
        · refine GoC.iload 5 dX9_weigh_84 rfl ?_
          refine GoC.iload 6 dX9_weigh_86 rfl ?_
          refine GoC.icmp_le 95 dX9_weigh_88 (by decide) h (fun h => ?_) (fun h => ?_)
          · exact ksX9_weigh_95 _ ih _ _ _ _ _ _ _ _ _ _ h
          · exact ksX9_weigh_91 _ ih _ _ _ _ _ _ _ _ _ _ h
set_option maxRecDepth 20000 in
theorem ksX9_weigh {l : Launch} {G : Gt} {n0 u0 : Nat} {σ : Hp} {Z : Int32 × Hp} (x0 : Nat) (x1 : Nat) (x2 : Int32) (x3 : Int32) (h : kX9_weigh σ x0 x1 x2 x3 = some Z) : GoC l G RX9 "weigh" cX9_weigh 8 (some .int) 1 22 n0 u0 (some (.int Z.1)) Z.2 0 [(0, G.rv x0), (1, G.rv x1), (2, .int x2), (3, .int x3)] [] σ := by
  unfold kX9_weigh at h
  refine GC.aload_n 0 dX9_weigh_0 rfl ?_
  refine GoC.iconst 0 dX9_weigh_1 (by decide) ?_
  refine GC.puti 9 5 rfl (by decide) (by decide) (rfl) fw_X9_92 (Or.inl rfl) (Or.inl rfl) dX9_weigh_2 h (fun σ32 h => ?_)
  refine GC.aload_n 0 dX9_weigh_5 rfl ?_
  refine GoC.iconst 0 dX9_weigh_6 (by decide) ?_
  refine GC.puti 9 6 rfl (by decide) (by decide) (rfl) fw_X9_101 (Or.inl rfl) (Or.inl rfl) dX9_weigh_7 h (fun σ33 h => ?_)
  refine GoC.iconst 0 dX9_weigh_10 (by decide) ?_
  refine GoC.istore [(0, G.rv x0), (1, G.rv x1), (2, .int x2), (3, .int x3), (4, .int 0)] dX9_weigh_11 (by decide) rfl ?_
  exact ksX9_weigh_13 _ _ _ _ _ _ _ h
set_option maxRecDepth 20000 in
theorem ktX9_weigh {l : Launch} {G : Gt} {σ : Hp} (x0 : Nat) (x1 : Nat) (x2 : Int32) (x3 : Int32) : ∀ Z, kX9_weigh σ x0 x1 x2 x3 = some Z → MtC l G yX9_weigh cX9_weigh 8 (some .int) 1 22 [G.rv x0, G.rv x1, .int x2, .int x3] σ (some (.int Z.1)) Z.2 := fun Z h => MtC.at (by decide +kernel) ⟨G.rv_cat _, G.rv_cat _, rfl, rfl, trivial⟩ (Nat.le_of_ble_eq_true rfl) (ksX9_weigh x0 x1 x2 x3 h)
/-! X9_part -/
def kX9_part_85 (k5 : Nat → Nat → Nat → Int32 → Int32 → Hp → Option (Hp)) (x0 : Nat) (x1 : Nat) (x2 : Nat) (x3 : Int32) (x4 : Int32) (σ : Hp) : Option (Hp) := k5 x0 x1 x2 x3 (x4 + 1) σ
def kX9_part_5  : Nat → Nat → Nat → Nat → Int32 → Int32 → Hp → Option (Hp)
  | 0, _, _, _, _, _, _ => none
  | n + 1, x0, x1, x2, x3, x4, σ => (gfi σ 13 302 x1).bind (fun v1 => if v1 ≤ x4 then (pfi σ 13 302 x1 x3).bind (fun σ2 => (gfi σ2 19 907 x0).bind (fun v3 => (pfi σ2 13 301 x1 v3).bind (fun σ4 => (gfi σ4 19 908 x0).bind (fun v5 => (pfi σ4 13 301 x2 v5).bind (fun σ6 => some σ6))))) else (gfr σ 19 904 x0).bind (fun v7 => (ald σ 2 v7 x4).bind (fun v8 => if v8 = 0 then (gfr σ 13 303 x1).bind (fun v9 => (ald σ 1 v9 x4).bind (fun v10 => (gfr σ 13 304 x1).bind (fun v11 => (ald σ 1 v11 x4).bind (fun v12 => (gfr σ 13 305 x1).bind (fun v13 => (ald σ 1 v13 x4).bind (fun v14 => ckd σ x1 13 ((kX3_setEntry σ x1 x3 v10 v12 v14).bind (fun σ15 => kX9_part_85 (kX9_part_5 n) x0 x1 x2 (x3 + 1) x4 σ15)))))))) else (gfi σ 13 302 x2).bind (fun v16 => (gfr σ 13 303 x1).bind (fun v17 => (ald σ 1 v17 x4).bind (fun v18 => (gfr σ 13 304 x1).bind (fun v19 => (ald σ 1 v19 x4).bind (fun v20 => (gfr σ 13 305 x1).bind (fun v21 => (ald σ 1 v21 x4).bind (fun v22 => ckd σ x2 13 ((kX3_insertEntry σ x2 v16 v18 v20 v22).bind (fun σ23 => kX9_part_85 (kX9_part_5 n) x0 x1 x2 x3 x4 σ23))))))))))))
def kX9_part (σ : Hp) (x0 : Nat) (x1 : Nat) (x2 : Nat) : Option (Hp) := kX9_part_5 FU x0 x1 x2 0 0 σ
set_option maxRecDepth 20000 in
theorem ksX9_part_85 {l : Launch} {G : Gt} {n0 u0 : Nat} {Z : Hp} (k5 : Nat → Nat → Nat → Int32 → Int32 → Hp → Option (Hp)) (h5 : ∀ (x0 : Nat) (x1 : Nat) (x2 : Nat) (x3 : Int32) (x4 : Int32) (σ : Hp), k5 x0 x1 x2 x3 x4 σ = some Z → GoC l G RX9 "part" cX9_part 5 none 2 72 n0 u0 none Z 5 [(0, G.rv x0), (1, G.rv x1), (2, G.rv x2), (3, .int x3), (4, .int x4)] [] σ) (x0 : Nat) (x1 : Nat) (x2 : Nat) (x3 : Int32) (x4 : Int32) (σ : Hp) (h : kX9_part_85 k5 x0 x1 x2 x3 x4 σ = some Z) : GoC l G RX9 "part" cX9_part 5 none 2 72 n0 u0 none Z 85 [(0, G.rv x0), (1, G.rv x1), (2, G.rv x2), (3, .int x3), (4, .int x4)] [] σ := by
  unfold kX9_part_85 at h
  refine GoC.iinc (w := 1) 4 [(0, G.rv x0), (1, G.rv x1), (2, G.rv x2), (3, .int x3), (4, .int (x4 + 1))] dX9_part_85 rfl (by decide) (by decide) rfl ?_
  refine GoC.goto 5 dX9_part_88 (by decide) ?_
  exact h5 _ _ _ _ _ _ h
set_option maxRecDepth 20000 in
theorem ksX9_part_5 {l : Launch} {G : Gt} {n0 u0 : Nat} {Z : Hp} (n : Nat) : ∀ (x0 : Nat) (x1 : Nat) (x2 : Nat) (x3 : Int32) (x4 : Int32) (σ : Hp), kX9_part_5 n x0 x1 x2 x3 x4 σ = some Z → GoC l G RX9 "part" cX9_part 5 none 2 72 n0 u0 none Z 5 [(0, G.rv x0), (1, G.rv x1), (2, G.rv x2), (3, .int x3), (4, .int x4)] [] σ := by
  induction n with
  | zero => intro x0 x1 x2 x3 x4 σ h; rw [kX9_part_5] at h; cases h
  | succ n ih =>
    intro x0 x1 x2 x3 x4 σ h
    rw [kX9_part_5] at h
    refine GoC.iload 4 dX9_part_5 rfl ?_
    refine GC.aload_n 1 dX9_part_7 rfl ?_
    refine GC.geti 3 2 rfl (by decide) (by decide) fw_X9_75 (Or.inl rfl) dX9_part_8 h (fun v1 h => ?_)
    refine GoC.icmp_ge 91 dX9_part_11 (by decide) h (fun h => ?_) (fun h => ?_)
    · refine GC.aload_n 1 dX9_part_91 rfl ?_
      refine GoC.iload_n 3 dX9_part_92 rfl ?_
      refine GC.puti 3 2 rfl (by decide) (by decide) (rfl) fw_X9_75 (Or.inl rfl) (Or.inl rfl) dX9_part_93 h (fun σ2 h => ?_)
      refine GC.aload_n 1 dX9_part_96 rfl ?_
      refine GC.aload_n 0 dX9_part_97 rfl ?_
      refine GC.geti 9 7 rfl (by decide) (by decide) fw_X9_89 (Or.inl rfl) dX9_part_98 h (fun v3 h => ?_)
      refine GC.puti 3 1 rfl (by decide) (by decide) (rfl) fw_X9_122 (Or.inl rfl) (Or.inl rfl) dX9_part_101 h (fun σ4 h => ?_)
      refine GC.aload_n 2 dX9_part_104 rfl ?_
      refine GC.aload_n 0 dX9_part_105 rfl ?_
      refine GC.geti 9 8 rfl (by decide) (by decide) fw_X9_98 (Or.inl rfl) dX9_part_106 h (fun v5 h => ?_)
      refine GC.puti 3 1 rfl (by decide) (by decide) (rfl) fw_X9_122 (Or.inl rfl) (Or.inl rfl) dX9_part_109 h (fun σ6 h => ?_)
      cases h
      exact GoC.vret dX9_part_112 rfl
    · refine GC.aload_n 0 dX9_part_14 rfl ?_
      refine GC.getr 9 4 rfl (by decide) (by decide) fw_X9_18 (Or.inl rfl) dX9_part_15 h (fun v7 h => ?_)
      refine GoC.iload 4 dX9_part_18 rfl ?_
      refine GC.zald dX9_part_20 h (fun v8 h => ?_)
      refine GoC.if_eq 56 dX9_part_21 (by decide) h (fun h => ?_) (fun h => ?_)
      · refine GC.aload_n 1 dX9_part_56 rfl ?_
        refine GoC.iload_n 3 dX9_part_57 rfl ?_
        refine GC.aload_n 1 dX9_part_58 rfl ?_
        refine GC.getr 3 3 rfl (by decide) (by decide) fw_X9_60 (Or.inl rfl) dX9_part_59 h (fun v9 h => ?_)
        refine GoC.iload 4 dX9_part_62 rfl ?_
        refine GC.iald dX9_part_64 h (fun v10 h => ?_)
        refine GC.aload_n 1 dX9_part_65 rfl ?_
        refine GC.getr 3 4 rfl (by decide) (by decide) fw_X9_69 (Or.inl rfl) dX9_part_66 h (fun v11 h => ?_)
        refine GoC.iload 4 dX9_part_69 rfl ?_
        refine GC.iald dX9_part_71 h (fun v12 h => ?_)
        refine GC.aload_n 1 dX9_part_72 rfl ?_
        refine GC.getr 3 5 rfl (by decide) (by decide) fw_X9_72 (Or.inl rfl) dX9_part_73 h (fun v13 h => ?_)
        refine GoC.iload 4 dX9_part_76 rfl ?_
        refine GC.iald dX9_part_78 h (fun v14 h => ?_)
        obtain ⟨h0, h⟩ := ckd_some h
        obtain ⟨σ15, hq, h⟩ := Option.bind_eq_some_iff.mp h
        refine GC.callvV (rest := []) 3 rfl h0 rfl [.int x3, .int v10, .int v12, .int v14] dX9_part_79 kk_X9_95 km_X3_setEntry.1 km_X3_setEntry.2 (ktX3_setEntry _ _ _ _ _ _ hq) rfl rfl (Nat.le_of_ble_eq_true rfl) (Nat.le_of_ble_eq_true rfl) trivial (Nat.le_of_ble_eq_true rfl) ?_
        refine GoC.iinc (w := 1) 3 [(0, G.rv x0), (1, G.rv x1), (2, G.rv x2), (3, .int (x3 + 1)), (4, .int x4)] dX9_part_82 rfl (by decide) (by decide) rfl ?_
        exact ksX9_part_85 _ ih _ _ _ _ _ _ h
      · refine GC.aload_n 2 dX9_part_24 rfl ?_
        refine GC.aload_n 2 dX9_part_25 rfl ?_
        refine GC.geti 3 2 rfl (by decide) (by decide) fw_X9_75 (Or.inl rfl) dX9_part_26 h (fun v16 h => ?_)
        refine GC.aload_n 1 dX9_part_29 rfl ?_
        refine GC.getr 3 3 rfl (by decide) (by decide) fw_X9_60 (Or.inl rfl) dX9_part_30 h (fun v17 h => ?_)
        refine GoC.iload 4 dX9_part_33 rfl ?_
        refine GC.iald dX9_part_35 h (fun v18 h => ?_)
        refine GC.aload_n 1 dX9_part_36 rfl ?_
        refine GC.getr 3 4 rfl (by decide) (by decide) fw_X9_69 (Or.inl rfl) dX9_part_37 h (fun v19 h => ?_)
        refine GoC.iload 4 dX9_part_40 rfl ?_
        refine GC.iald dX9_part_42 h (fun v20 h => ?_)
        refine GC.aload_n 1 dX9_part_43 rfl ?_
        refine GC.getr 3 5 rfl (by decide) (by decide) fw_X9_72 (Or.inl rfl) dX9_part_44 h (fun v21 h => ?_)
        refine GoC.iload 4 dX9_part_47 rfl ?_
        refine GC.iald dX9_part_49 h (fun v22 h => ?_)
        obtain ⟨h0, h⟩ := ckd_some h
        obtain ⟨σ23, hq, h⟩ := Option.bind_eq_some_iff.mp h
        refine GC.callvV (rest := []) 3 rfl h0 rfl [.int v16, .int v18, .int v20, .int v22] dX9_part_50 kk_X9_78 km_X3_insertEntry.1 km_X3_insertEntry.2 (ktX3_insertEntry _ _ _ _ _ _ hq) rfl rfl (Nat.le_of_ble_eq_true rfl) (Nat.le_of_ble_eq_true rfl) trivial (Nat.le_of_ble_eq_true rfl) ?_
        refine GoC.goto 85 dX9_part_53 (by decide) ?_
        exact ksX9_part_85 _ ih _ _ _ _ _ _ h
set_option maxRecDepth 20000 in
theorem ksX9_part {l : Launch} {G : Gt} {n0 u0 : Nat} {σ : Hp} {Z : Hp} (x0 : Nat) (x1 : Nat) (x2 : Nat) (h : kX9_part σ x0 x1 x2 = some Z) : GoC l G RX9 "part" cX9_part 5 none 2 72 n0 u0 none Z 0 [(0, G.rv x0), (1, G.rv x1), (2, G.rv x2)] [] σ := by
  unfold kX9_part at h
  refine GoC.iconst 0 dX9_part_0 (by decide) ?_
  refine GoC.istore_n [(0, G.rv x0), (1, G.rv x1), (2, G.rv x2), (3, .int 0)] dX9_part_1 (by decide) rfl ?_
  refine GoC.iconst 0 dX9_part_2 (by decide) ?_
  refine GoC.istore [(0, G.rv x0), (1, G.rv x1), (2, G.rv x2), (3, .int 0), (4, .int 0)] dX9_part_3 (by decide) rfl ?_
  exact ksX9_part_5 _ _ _ _ _ _ _ h
set_option maxRecDepth 20000 in
theorem ktX9_part {l : Launch} {G : Gt} {σ : Hp} (x0 : Nat) (x1 : Nat) (x2 : Nat) : ∀ Z, kX9_part σ x0 x1 x2 = some Z → MtC l G yX9_part cX9_part 5 none 2 72 [G.rv x0, G.rv x1, G.rv x2] σ none Z := fun Z h => MtC.at (by decide +kernel) ⟨G.rv_cat _, G.rv_cat _, G.rv_cat _, trivial⟩ (Nat.le_of_ble_eq_true rfl) (ksX9_part x0 x1 x2 h)
/-! X9_split -/
def kX9_split_68 (k16 : Nat → Nat → Int32 → Int32 → Int32 → Int32 → Hp → Option (Hp)) (k31 : Nat → Nat → Int32 → Int32 → Int32 → Int32 → Int32 → Hp → Option (Hp)) (x0 : Nat) (x1 : Nat) (x2 : Int32) (x3 : Int32) (x4 : Int32) (x5 : Int32) (x6 : Int32) (σ : Hp) : Option (Hp) := k31 x0 x1 x2 x3 x4 x5 (x6 + 1) σ
def kX9_split_31 (k16 : Nat → Nat → Int32 → Int32 → Int32 → Int32 → Hp → Option (Hp)) : Nat → Nat → Nat → Int32 → Int32 → Int32 → Int32 → Int32 → Hp → Option (Hp)
  | 0, _, _, _, _, _, _, _, _ => none
  | n + 1, x0, x1, x2, x3, x4, x5, x6, σ => (gfi σ 13 302 x1).bind (fun v1 => if v1 ≤ x6 then k16 x0 x1 x2 x3 x4 (x5 + 1) σ else ckd σ x0 19 (bd2 (kX9_weigh σ x0 x1 x5 x6) (fun v2 σ3 => if x4 ≤ v2 then kX9_split_68 k16 (kX9_split_31 k16 n) x0 x1 x2 x3 x4 x5 x6 σ3 else kX9_split_68 k16 (kX9_split_31 k16 n) x0 x1 x5 x6 v2 x5 x6 σ3)))
def kX9_split_16  : Nat → Nat → Nat → Int32 → Int32 → Int32 → Int32 → Hp → Option (Hp)
  | 0, _, _, _, _, _, _, _ => none
  | n + 1, x0, x1, x2, x3, x4, x5, σ => (gfi σ 13 302 x1).bind (fun v4 => if v4 ≤ x5 then ckd σ x0 19 (bd2 (kX9_weigh σ x0 x1 x2 x3) (fun v5 σ6 => (gfr σ6 13 303 x1).bind (fun v7 => (ald σ6 1 v7 x2).bind (fun v8 => (pfi σ6 19 907 x0 v8).bind (fun σ9 => (gfr σ9 13 303 x1).bind (fun v10 => (ald σ9 1 v10 x3).bind (fun v11 => (pfi σ9 19 908 x0 v11).bind (fun σ12 => (gfr σ12 19 900 x0).bind (fun v13 => (gfi σ12 13 300 x1).bind (fun v14 => ckd σ12 v13 17 (bd2 (kX7_takePage σ12 v13 v14) (fun v15 σ16 => (pfi σ16 19 909 x0 v15).bind (fun σ17 => (gfr σ17 19 900 x0).bind (fun v18 => (gfi σ17 19 909 x0).bind (fun v19 => ckd σ17 v18 17 ((kX7_at σ17 v18 v19).bind (fun v20 => ckd σ17 x0 19 ((kX9_part σ17 x0 x1 v20).bind (fun σ21 => some σ21))))))))))))))))))) else kX9_split_31 (kX9_split_16 n) FU x0 x1 x2 x3 x4 x5 (x5 + 1) σ)
def kX9_split (σ : Hp) (x0 : Nat) (x1 : Nat) : Option (Hp) := ckd σ x0 19 (bd2 (kX9_weigh σ x0 x1 0 1) (fun v22 σ23 => kX9_split_16 FU x0 x1 0 1 v22 0 σ23))
set_option maxRecDepth 20000 in
theorem ksX9_split_68 {l : Launch} {G : Gt} {n0 u0 : Nat} {Z : Hp} (k16 : Nat → Nat → Int32 → Int32 → Int32 → Int32 → Hp → Option (Hp)) (h16 : ∀ (x0 : Nat) (x1 : Nat) (x2 : Int32) (x3 : Int32) (x4 : Int32) (x5 : Int32) (σ : Hp), k16 x0 x1 x2 x3 x4 x5 σ = some Z → GoC l G RX9 "split" cX9_split 8 none 8 201 n0 u0 none Z 16 [(0, G.rv x0), (1, G.rv x1), (2, .int x2), (3, .int x3), (4, .int x4), (5, .int x5)] [] σ) (k31 : Nat → Nat → Int32 → Int32 → Int32 → Int32 → Int32 → Hp → Option (Hp)) (h31 : ∀ (x0 : Nat) (x1 : Nat) (x2 : Int32) (x3 : Int32) (x4 : Int32) (x5 : Int32) (x6 : Int32) (σ : Hp), k31 x0 x1 x2 x3 x4 x5 x6 σ = some Z → GoC l G RX9 "split" cX9_split 8 none 8 201 n0 u0 none Z 31 [(0, G.rv x0), (1, G.rv x1), (2, .int x2), (3, .int x3), (4, .int x4), (5, .int x5), (6, .int x6)] [] σ) (x0 : Nat) (x1 : Nat) (x2 : Int32) (x3 : Int32) (x4 : Int32) (x5 : Int32) (x6 : Int32) (σ : Hp) (h : kX9_split_68 k16 k31 x0 x1 x2 x3 x4 x5 x6 σ = some Z) : GoC l G RX9 "split" cX9_split 8 none 8 201 n0 u0 none Z 68 [(0, G.rv x0), (1, G.rv x1), (2, .int x2), (3, .int x3), (4, .int x4), (5, .int x5), (6, .int x6)] [] σ := by
  unfold kX9_split_68 at h
  refine GoC.iinc (w := 1) 6 [(0, G.rv x0), (1, G.rv x1), (2, .int x2), (3, .int x3), (4, .int x4), (5, .int x5), (6, .int (x6 + 1))] dX9_split_68 rfl (by decide) (by decide) rfl ?_
  refine GoC.goto 31 dX9_split_71 (by decide) ?_
  exact h31 _ _ _ _ _ _ _ _ h
set_option maxRecDepth 20000 in
theorem ksX9_split_31 {l : Launch} {G : Gt} {n0 u0 : Nat} {Z : Hp} (k16 : Nat → Nat → Int32 → Int32 → Int32 → Int32 → Hp → Option (Hp)) (h16 : ∀ (x0 : Nat) (x1 : Nat) (x2 : Int32) (x3 : Int32) (x4 : Int32) (x5 : Int32) (σ : Hp), k16 x0 x1 x2 x3 x4 x5 σ = some Z → GoC l G RX9 "split" cX9_split 8 none 8 201 n0 u0 none Z 16 [(0, G.rv x0), (1, G.rv x1), (2, .int x2), (3, .int x3), (4, .int x4), (5, .int x5)] [] σ) (n : Nat) : ∀ (x0 : Nat) (x1 : Nat) (x2 : Int32) (x3 : Int32) (x4 : Int32) (x5 : Int32) (x6 : Int32) (σ : Hp), kX9_split_31 k16 n x0 x1 x2 x3 x4 x5 x6 σ = some Z → GoC l G RX9 "split" cX9_split 8 none 8 201 n0 u0 none Z 31 [(0, G.rv x0), (1, G.rv x1), (2, .int x2), (3, .int x3), (4, .int x4), (5, .int x5), (6, .int x6)] [] σ := by
  induction n with
  | zero => intro x0 x1 x2 x3 x4 x5 x6 σ h; rw [kX9_split_31] at h; cases h
  | succ n ih =>
    intro x0 x1 x2 x3 x4 x5 x6 σ h
    rw [kX9_split_31] at h
    refine GoC.iload 6 dX9_split_31 rfl ?_
    refine GC.aload_n 1 dX9_split_33 rfl ?_
    refine GC.geti 3 2 rfl (by decide) (by decide) fw_X9_75 (Or.inl rfl) dX9_split_34 h (fun v1 h => ?_)
    refine GoC.icmp_ge 74 dX9_split_37 (by decide) h (fun h => ?_) (fun h => ?_)
    · refine GoC.iinc (w := 1) 5 [(0, G.rv x0), (1, G.rv x1), (2, .int x2), (3, .int x3), (4, .int x4), (5, .int (x5 + 1)), (6, .int x6)] dX9_split_74 rfl (by decide) (by decide) rfl ?_
      refine GoC.goto 16 dX9_split_77 (by decide) ?_
      refine GoC.sub [0, 1, 2, 3, 4, 5] rfl ?_
      exact h16 _ _ _ _ _ _ _ h
    · refine GC.aload_n 0 dX9_split_40 rfl ?_
      refine GC.aload_n 1 dX9_split_41 rfl ?_
      refine GoC.iload 5 dX9_split_42 rfl ?_
      refine GoC.iload 6 dX9_split_44 rfl ?_
      obtain ⟨h0, h⟩ := ckd_some h
      obtain ⟨v2, σ3, hq, h⟩ := bd2_some h
      refine GC.callvI (rest := []) 9 rfl h0 rfl [G.rv x1, .int x5, .int x6] dX9_split_46 kk_X9_114 km_X9_weigh.1 km_X9_weigh.2 (ktX9_weigh _ _ _ _ _ hq) rfl rfl (Nat.le_of_ble_eq_true rfl) (Nat.le_of_ble_eq_true rfl) trivial (Nat.le_of_ble_eq_true rfl) ?_
      refine GoC.istore [(0, G.rv x0), (1, G.rv x1), (2, .int x2), (3, .int x3), (4, .int x4), (5, .int x5), (6, .int x6), (7, .int v2)] dX9_split_49 (by decide) rfl ?_
      refine GoC.iload 7 dX9_split_51 rfl ?_
      refine GoC.iload 4 dX9_split_53 rfl ?_
      refine GoC.icmp_ge 68 dX9_split_55 (by decide) h (fun h => ?_) (fun h => ?_)
      · refine GoC.sub [0, 1, 2, 3, 4, 5, 6] rfl ?_
        exact ksX9_split_68 _ h16 _ ih _ _ _ _ _ _ _ _ h
      · refine GoC.iload 7 dX9_split_58 rfl ?_
        refine GoC.istore [(0, G.rv x0), (1, G.rv x1), (2, .int x2), (3, .int x3), (4, .int v2), (5, .int x5), (6, .int x6), (7, .int v2)] dX9_split_60 (by decide) rfl ?_
        refine GoC.iload 5 dX9_split_62 rfl ?_
        refine GoC.istore_n [(0, G.rv x0), (1, G.rv x1), (2, .int x5), (3, .int x3), (4, .int v2), (5, .int x5), (6, .int x6), (7, .int v2)] dX9_split_64 (by decide) rfl ?_
        refine GoC.iload 6 dX9_split_65 rfl ?_
        refine GoC.istore_n [(0, G.rv x0), (1, G.rv x1), (2, .int x5), (3, .int x6), (4, .int v2), (5, .int x5), (6, .int x6), (7, .int v2)] dX9_split_67 (by decide) rfl ?_
        refine GoC.sub [0, 1, 2, 3, 4, 5, 6] rfl ?_
        exact ksX9_split_68 _ h16 _ ih _ _ _ _ _ _ _ _ h
set_option maxRecDepth 20000 in
theorem ksX9_split_16 {l : Launch} {G : Gt} {n0 u0 : Nat} {Z : Hp} (n : Nat) : ∀ (x0 : Nat) (x1 : Nat) (x2 : Int32) (x3 : Int32) (x4 : Int32) (x5 : Int32) (σ : Hp), kX9_split_16 n x0 x1 x2 x3 x4 x5 σ = some Z → GoC l G RX9 "split" cX9_split 8 none 8 201 n0 u0 none Z 16 [(0, G.rv x0), (1, G.rv x1), (2, .int x2), (3, .int x3), (4, .int x4), (5, .int x5)] [] σ := by
  induction n with
  | zero => intro x0 x1 x2 x3 x4 x5 σ h; rw [kX9_split_16] at h; cases h
  | succ n ih =>
    intro x0 x1 x2 x3 x4 x5 σ h
    rw [kX9_split_16] at h
    refine GoC.iload 5 dX9_split_16 rfl ?_
    refine GC.aload_n 1 dX9_split_18 rfl ?_
    refine GC.geti 3 2 rfl (by decide) (by decide) fw_X9_75 (Or.inl rfl) dX9_split_19 h (fun v4 h => ?_)
    refine GoC.icmp_ge 80 dX9_split_22 (by decide) h (fun h => ?_) (fun h => ?_)
    · refine GC.aload_n 0 dX9_split_80 rfl ?_
      refine GC.aload_n 1 dX9_split_81 rfl ?_
      refine GoC.iload_n 2 dX9_split_82 rfl ?_
      refine GoC.iload_n 3 dX9_split_83 rfl ?_
      obtain ⟨h0, h⟩ := ckd_some h
      obtain ⟨v5, σ6, hq, h⟩ := bd2_some h
      refine GC.callvI (rest := []) 9 rfl h0 rfl [G.rv x1, .int x2, .int x3] dX9_split_84 kk_X9_114 km_X9_weigh.1 km_X9_weigh.2 (ktX9_weigh _ _ _ _ _ hq) rfl rfl (Nat.le_of_ble_eq_true rfl) (Nat.le_of_ble_eq_true rfl) trivial (Nat.le_of_ble_eq_true rfl) ?_
      refine GoC.pop dX9_split_87 (rfl) ?_
      refine GC.aload_n 0 dX9_split_88 rfl ?_
      refine GC.aload_n 1 dX9_split_89 rfl ?_
      refine GC.getr 3 3 rfl (by decide) (by decide) fw_X9_60 (Or.inl rfl) dX9_split_90 h (fun v7 h => ?_)
      refine GoC.iload_n 2 dX9_split_93 rfl ?_
      refine GC.iald dX9_split_94 h (fun v8 h => ?_)
      refine GC.puti 9 7 rfl (by decide) (by decide) (rfl) fw_X9_89 (Or.inl rfl) (Or.inl rfl) dX9_split_95 h (fun σ9 h => ?_)
      refine GC.aload_n 0 dX9_split_98 rfl ?_
      refine GC.aload_n 1 dX9_split_99 rfl ?_
      refine GC.getr 3 3 rfl (by decide) (by decide) fw_X9_60 (Or.inl rfl) dX9_split_100 h (fun v10 h => ?_)
      refine GoC.iload_n 3 dX9_split_103 rfl ?_
      refine GC.iald dX9_split_104 h (fun v11 h => ?_)
      refine GC.puti 9 8 rfl (by decide) (by decide) (rfl) fw_X9_98 (Or.inl rfl) (Or.inl rfl) dX9_split_105 h (fun σ12 h => ?_)
      refine GC.aload_n 0 dX9_split_108 rfl ?_
      refine GC.aload_n 0 dX9_split_109 rfl ?_
      refine GC.getr 9 0 rfl (by decide) (by decide) fw_X9_22 (Or.inl rfl) dX9_split_110 h (fun v13 h => ?_)
      refine GC.aload_n 1 dX9_split_113 rfl ?_
      refine GC.geti 3 0 rfl (by decide) (by decide) fw_X9_50 (Or.inl rfl) dX9_split_114 h (fun v14 h => ?_)
      obtain ⟨h0, h⟩ := ckd_some h
      obtain ⟨v15, σ16, hq, h⟩ := bd2_some h
      refine GC.callvI (rest := [G.rv x0]) 7 rfl h0 rfl [.int v14] dX9_split_117 kk_X9_110 km_X7_takePage.1 km_X7_takePage.2 (ktX7_takePage _ _ _ hq) rfl rfl (Nat.le_of_ble_eq_true rfl) (Nat.le_of_ble_eq_true rfl) ⟨G.rv_cat _, trivial⟩ (Nat.le_of_ble_eq_true rfl) ?_
      refine GC.puti 9 9 rfl (by decide) (by decide) (rfl) fw_X9_104 (Or.inl rfl) (Or.inl rfl) dX9_split_120 h (fun σ17 h => ?_)
      refine GC.aload_n 0 dX9_split_123 rfl ?_
      refine GC.aload_n 1 dX9_split_124 rfl ?_
      refine GC.aload_n 0 dX9_split_125 rfl ?_
      refine GC.getr 9 0 rfl (by decide) (by decide) fw_X9_22 (Or.inl rfl) dX9_split_126 h (fun v18 h => ?_)
      refine GC.aload_n 0 dX9_split_129 rfl ?_
      refine GC.geti 9 9 rfl (by decide) (by decide) fw_X9_104 (Or.inl rfl) dX9_split_130 h (fun v19 h => ?_)
      obtain ⟨h0, h⟩ := ckd_some h
      obtain ⟨v20, hq, h⟩ := Option.bind_eq_some_iff.mp h
      refine GC.callvR (rest := [G.rv x1, G.rv x0]) 7 rfl h0 rfl [.int v19] dX9_split_133 kk_X9_46 km_X7_at.1 km_X7_at.2 (ktX7_at _ _ _ hq) rfl rfl (Nat.le_of_ble_eq_true rfl) (Nat.le_of_ble_eq_true rfl) ⟨G.rv_cat _, G.rv_cat _, trivial⟩ (Nat.le_of_ble_eq_true rfl) ?_
      obtain ⟨h0, h⟩ := ckd_some h
      obtain ⟨σ21, hq, h⟩ := Option.bind_eq_some_iff.mp h
      refine GC.callvV (rest := []) 9 rfl h0 rfl [G.rv x1, G.rv v20] dX9_split_136 kk_X9_118 km_X9_part.1 km_X9_part.2 (ktX9_part _ _ _ _ hq) rfl rfl (Nat.le_of_ble_eq_true rfl) (Nat.le_of_ble_eq_true rfl) trivial (Nat.le_of_ble_eq_true rfl) ?_
      cases h
      exact GoC.vret dX9_split_139 rfl
    · refine GoC.iload 5 dX9_split_25 rfl ?_
      refine GoC.iconst 1 dX9_split_27 (by decide) ?_
      refine GoC.iadd dX9_split_28 ?_
      refine GoC.istore [(0, G.rv x0), (1, G.rv x1), (2, .int x2), (3, .int x3), (4, .int x4), (5, .int x5), (6, .int (x5 + 1))] dX9_split_29 (by decide) rfl ?_
      exact ksX9_split_31 _ ih _ _ _ _ _ _ _ _ _ h
set_option maxRecDepth 20000 in
theorem ksX9_split {l : Launch} {G : Gt} {n0 u0 : Nat} {σ : Hp} {Z : Hp} (x0 : Nat) (x1 : Nat) (h : kX9_split σ x0 x1 = some Z) : GoC l G RX9 "split" cX9_split 8 none 8 201 n0 u0 none Z 0 [(0, G.rv x0), (1, G.rv x1)] [] σ := by
  unfold kX9_split at h
  refine GoC.iconst 0 dX9_split_0 (by decide) ?_
  refine GoC.istore_n [(0, G.rv x0), (1, G.rv x1), (2, .int 0)] dX9_split_1 (by decide) rfl ?_
  refine GoC.iconst 1 dX9_split_2 (by decide) ?_
  refine GoC.istore_n [(0, G.rv x0), (1, G.rv x1), (2, .int 0), (3, .int 1)] dX9_split_3 (by decide) rfl ?_
  refine GC.aload_n 0 dX9_split_4 rfl ?_
  refine GC.aload_n 1 dX9_split_5 rfl ?_
  refine GoC.iconst 0 dX9_split_6 (by decide) ?_
  refine GoC.iconst 1 dX9_split_7 (by decide) ?_
  obtain ⟨h0, h⟩ := ckd_some h
  obtain ⟨v22, σ23, hq, h⟩ := bd2_some h
  refine GC.callvI (rest := []) 9 rfl h0 rfl [G.rv x1, .int 0, .int 1] dX9_split_8 kk_X9_114 km_X9_weigh.1 km_X9_weigh.2 (ktX9_weigh _ _ _ _ _ hq) rfl rfl (Nat.le_of_ble_eq_true rfl) (Nat.le_of_ble_eq_true rfl) trivial (Nat.le_of_ble_eq_true rfl) ?_
  refine GoC.istore [(0, G.rv x0), (1, G.rv x1), (2, .int 0), (3, .int 1), (4, .int v22)] dX9_split_11 (by decide) rfl ?_
  refine GoC.iconst 0 dX9_split_13 (by decide) ?_
  refine GoC.istore [(0, G.rv x0), (1, G.rv x1), (2, .int 0), (3, .int 1), (4, .int v22), (5, .int 0)] dX9_split_14 (by decide) rfl ?_
  exact ksX9_split_16 _ _ _ _ _ _ _ _ h
set_option maxRecDepth 20000 in
theorem ktX9_split {l : Launch} {G : Gt} {σ : Hp} (x0 : Nat) (x1 : Nat) : ∀ Z, kX9_split σ x0 x1 = some Z → MtC l G yX9_split cX9_split 8 none 8 201 [G.rv x0, G.rv x1] σ none Z := fun Z h => MtC.at (by decide +kernel) ⟨G.rv_cat _, G.rv_cat _, trivial⟩ (Nat.le_of_ble_eq_true rfl) (ksX9_split x0 x1 h)
/-! X9_makeRoot -/
def kX9_makeRoot (σ : Hp) (x0 : Nat) (x1 : Int32) : Option (Hp) := (gfr σ 19 900 x0).bind (fun v1 => (gfr σ 19 900 x0).bind (fun v2 => ckd σ v2 17 (bd2 (kX7_takePage σ v2 0) (fun v3 σ4 => (pfi σ4 17 710 v1 v3).bind (fun σ5 => (gfr σ5 19 900 x0).bind (fun v6 => (gfr σ5 19 900 x0).bind (fun v7 => (gfi σ5 17 710 v7).bind (fun v8 => ckd σ5 v6 17 ((kX7_at σ5 v6 v8).bind (fun v9 => (gfi σ5 19 907 x0).bind (fun v10 => (gfi σ5 19 905 x0).bind (fun v11 => ckd σ5 v9 13 ((kX3_insertEntry σ5 v9 0 v10 v11 x1).bind (fun σ12 => (gfi σ12 19 908 x0).bind (fun v13 => (gfi σ12 19 906 x0).bind (fun v14 => (gfi σ12 19 909 x0).bind (fun v15 => ckd σ12 v9 13 ((kX3_insertEntry σ12 v9 1 v13 v14 v15).bind (fun σ16 => some σ16)))))))))))))))))))
set_option maxRecDepth 20000 in
theorem ksX9_makeRoot {l : Launch} {G : Gt} {n0 u0 : Nat} {σ : Hp} {Z : Hp} (x0 : Nat) (x1 : Int32) (h : kX9_makeRoot σ x0 x1 = some Z) : GoC l G RX9 "makeRoot" cX9_makeRoot 3 none 8 201 n0 u0 none Z 0 [(0, G.rv x0), (1, .int x1)] [] σ := by
  unfold kX9_makeRoot at h
  refine GC.aload_n 0 dX9_makeRoot_0 rfl ?_
  refine GC.getr 9 0 rfl (by decide) (by decide) fw_X9_22 (Or.inl rfl) dX9_makeRoot_1 h (fun v1 h => ?_)
  refine GC.aload_n 0 dX9_makeRoot_4 rfl ?_
  refine GC.getr 9 0 rfl (by decide) (by decide) fw_X9_22 (Or.inl rfl) dX9_makeRoot_5 h (fun v2 h => ?_)
  refine GoC.iconst 0 dX9_makeRoot_8 (by decide) ?_
  obtain ⟨h0, h⟩ := ckd_some h
  obtain ⟨v3, σ4, hq, h⟩ := bd2_some h
  refine GC.callvI (rest := [G.rv v1]) 7 rfl h0 rfl [.int 0] dX9_makeRoot_9 kk_X9_110 km_X7_takePage.1 km_X7_takePage.2 (ktX7_takePage _ _ _ hq) rfl rfl (Nat.le_of_ble_eq_true rfl) (Nat.le_of_ble_eq_true rfl) ⟨G.rv_cat _, trivial⟩ (Nat.le_of_ble_eq_true rfl) ?_
  refine GC.puti 7 10 rfl (by decide) (by decide) (rfl) fw_X9_42 (Or.inl rfl) (Or.inl rfl) dX9_makeRoot_12 h (fun σ5 h => ?_)
  refine GC.aload_n 0 dX9_makeRoot_15 rfl ?_
  refine GC.getr 9 0 rfl (by decide) (by decide) fw_X9_22 (Or.inl rfl) dX9_makeRoot_16 h (fun v6 h => ?_)
  refine GC.aload_n 0 dX9_makeRoot_19 rfl ?_
  refine GC.getr 9 0 rfl (by decide) (by decide) fw_X9_22 (Or.inl rfl) dX9_makeRoot_20 h (fun v7 h => ?_)
  refine GC.geti 7 10 rfl (by decide) (by decide) fw_X9_42 (Or.inl rfl) dX9_makeRoot_23 h (fun v8 h => ?_)
  obtain ⟨h0, h⟩ := ckd_some h
  obtain ⟨v9, hq, h⟩ := Option.bind_eq_some_iff.mp h
  refine GC.callvR (rest := []) 7 rfl h0 rfl [.int v8] dX9_makeRoot_26 kk_X9_46 km_X7_at.1 km_X7_at.2 (ktX7_at _ _ _ hq) rfl rfl (Nat.le_of_ble_eq_true rfl) (Nat.le_of_ble_eq_true rfl) trivial (Nat.le_of_ble_eq_true rfl) ?_
  refine GC.astore_n [(0, G.rv x0), (1, .int x1), (2, G.rv v9)] dX9_makeRoot_29 (by decide) rfl ?_
  refine GC.aload_n 2 dX9_makeRoot_30 rfl ?_
  refine GoC.iconst 0 dX9_makeRoot_31 (by decide) ?_
  refine GC.aload_n 0 dX9_makeRoot_32 rfl ?_
  refine GC.geti 9 7 rfl (by decide) (by decide) fw_X9_89 (Or.inl rfl) dX9_makeRoot_33 h (fun v10 h => ?_)
  refine GC.aload_n 0 dX9_makeRoot_36 rfl ?_
  refine GC.geti 9 5 rfl (by decide) (by decide) fw_X9_92 (Or.inl rfl) dX9_makeRoot_37 h (fun v11 h => ?_)
  refine GoC.iload_n 1 dX9_makeRoot_40 rfl ?_
  obtain ⟨h0, h⟩ := ckd_some h
  obtain ⟨σ12, hq, h⟩ := Option.bind_eq_some_iff.mp h
  refine GC.callvV (rest := []) 3 rfl h0 rfl [.int 0, .int v10, .int v11, .int x1] dX9_makeRoot_41 kk_X9_78 km_X3_insertEntry.1 km_X3_insertEntry.2 (ktX3_insertEntry _ _ _ _ _ _ hq) rfl rfl (Nat.le_of_ble_eq_true rfl) (Nat.le_of_ble_eq_true rfl) trivial (Nat.le_of_ble_eq_true rfl) ?_
  refine GC.aload_n 2 dX9_makeRoot_44 rfl ?_
  refine GoC.iconst 1 dX9_makeRoot_45 (by decide) ?_
  refine GC.aload_n 0 dX9_makeRoot_46 rfl ?_
  refine GC.geti 9 8 rfl (by decide) (by decide) fw_X9_98 (Or.inl rfl) dX9_makeRoot_47 h (fun v13 h => ?_)
  refine GC.aload_n 0 dX9_makeRoot_50 rfl ?_
  refine GC.geti 9 6 rfl (by decide) (by decide) fw_X9_101 (Or.inl rfl) dX9_makeRoot_51 h (fun v14 h => ?_)
  refine GC.aload_n 0 dX9_makeRoot_54 rfl ?_
  refine GC.geti 9 9 rfl (by decide) (by decide) fw_X9_104 (Or.inl rfl) dX9_makeRoot_55 h (fun v15 h => ?_)
  obtain ⟨h0, h⟩ := ckd_some h
  obtain ⟨σ16, hq, h⟩ := Option.bind_eq_some_iff.mp h
  refine GC.callvV (rest := []) 3 rfl h0 rfl [.int 1, .int v13, .int v14, .int v15] dX9_makeRoot_58 kk_X9_78 km_X3_insertEntry.1 km_X3_insertEntry.2 (ktX3_insertEntry _ _ _ _ _ _ hq) rfl rfl (Nat.le_of_ble_eq_true rfl) (Nat.le_of_ble_eq_true rfl) trivial (Nat.le_of_ble_eq_true rfl) ?_
  cases h
  exact GoC.vret dX9_makeRoot_61 rfl
set_option maxRecDepth 20000 in
theorem ktX9_makeRoot {l : Launch} {G : Gt} {σ : Hp} (x0 : Nat) (x1 : Int32) : ∀ Z, kX9_makeRoot σ x0 x1 = some Z → MtC l G yX9_makeRoot cX9_makeRoot 3 none 8 201 [G.rv x0, .int x1] σ none Z := fun Z h => MtC.at (by decide +kernel) ⟨G.rv_cat _, rfl, trivial⟩ (Nat.le_of_ble_eq_true rfl) (ksX9_makeRoot x0 x1 h)
