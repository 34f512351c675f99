/-! X7_noteTold -/
def kX7_noteTold (σ : Hp) (x0 : Nat) (x1 : Int32) (x2 : Int32) (x3 : Int32) (x4 : Int32) : Option (Hp) := if x1 = (-1) then (gfi σ 17 705 x0).bind (fun v1 => if 16 ≤ v1 then some σ else (gfi σ 17 705 x0).bind (fun v2 => ckd σ x0 17 ((kX7_setTold σ x0 v2 x2 x3 x4).bind (fun σ3 => (gfi σ3 17 705 x0).bind (fun v4 => (pfi σ3 17 705 x0 (v4 + 1)).bind (fun σ5 => some σ5)))))) else ckd σ x0 17 ((kX7_setTold σ x0 x1 x2 x3 x4).bind (fun σ6 => some σ6))
set_option maxRecDepth 20000 in
theorem ksX7_noteTold {l : Launch} {G : Gt} {n0 u0 : Nat} {σ : Hp} {Z : Hp} (x0 : Nat) (x1 : Int32) (x2 : Int32) (x3 : Int32) (x4 : Int32) (h : kX7_noteTold σ x0 x1 x2 x3 x4 = some Z) : GoC l G RX7 "noteTold" cX7_noteTold 5 none 1 24 n0 u0 none Z 0 [(0, G.rv x0), (1, .int x1), (2, .int x2), (3, .int x3), (4, .int x4)] [] σ := by
  unfold kX7_noteTold at h
  refine GoC.iload_n 1 dX7_noteTold_0 rfl ?_
  refine GoC.iconst (-1) dX7_noteTold_1 (by decide) ?_
  refine GoC.icmp_eq 17 dX7_noteTold_2 (by decide) h (fun h => ?_) (fun h => ?_)
  · refine GC.aload_n 0 dX7_noteTold_17 rfl ?_
    refine GC.geti 7 5 rfl (by decide) (by decide) fw_X7_55 (Or.inl rfl) dX7_noteTold_18 h (fun v1 h => ?_)
    refine GoC.bipush 16 dX7_noteTold_21 (by decide) ?_
    refine GoC.icmp_ge 48 dX7_noteTold_23 (by decide) h (fun h => ?_) (fun h => ?_)
    · cases h
      exact GoC.vret dX7_noteTold_48 rfl
    · refine GC.aload_n 0 dX7_noteTold_26 rfl ?_
      refine GC.aload_n 0 dX7_noteTold_27 rfl ?_
      refine GC.geti 7 5 rfl (by decide) (by decide) fw_X7_55 (Or.inl rfl) dX7_noteTold_28 h (fun v2 h => ?_)
      refine GoC.iload_n 2 dX7_noteTold_31 rfl ?_
      refine GoC.iload_n 3 dX7_noteTold_32 rfl ?_
      refine GoC.iload 4 dX7_noteTold_33 rfl ?_
      obtain ⟨h0, h⟩ := ckd_some h
      obtain ⟨σ3, hq, h⟩ := Option.bind_eq_some_iff.mp h
      refine GC.callvV (rest := []) 7 rfl h0 rfl [.int v2, .int x2, .int x3, .int x4] dX7_noteTold_35 kk_X7_58 km_X7_setTold.1 km_X7_setTold.2 (ktX7_setTold _ _ _ _ _ _ hq) rfl rfl (Nat.le_of_ble_eq_true rfl) (Nat.le_of_ble_eq_true rfl) trivial (Nat.le_of_ble_eq_true rfl) ?_
      refine GC.aload_n 0 dX7_noteTold_38 rfl ?_
      refine GoC.dup dX7_noteTold_39 (G.rv_cat _) ?_
      refine GC.geti 7 5 rfl (by decide) (by decide) fw_X7_55 (Or.inl rfl) dX7_noteTold_40 h (fun v4 h => ?_)
      refine GoC.iconst 1 dX7_noteTold_43 (by decide) ?_
      refine GoC.iadd dX7_noteTold_44 ?_
      refine GC.puti 7 5 rfl (by decide) (by decide) (rfl) fw_X7_55 (Or.inl rfl) (Or.inl rfl) dX7_noteTold_45 h (fun σ5 h => ?_)
      cases h
      exact GoC.vret dX7_noteTold_48 rfl
  · refine GC.aload_n 0 dX7_noteTold_5 rfl ?_
    refine GoC.iload_n 1 dX7_noteTold_6 rfl ?_
    refine GoC.iload_n 2 dX7_noteTold_7 rfl ?_
    refine GoC.iload_n 3 dX7_noteTold_8 rfl ?_
    refine GoC.iload 4 dX7_noteTold_9 rfl ?_
    obtain ⟨h0, h⟩ := ckd_some h
    obtain ⟨σ6, hq, h⟩ := Option.bind_eq_some_iff.mp h
    refine GC.callvV (rest := []) 7 rfl h0 rfl [.int x1, .int x2, .int x3, .int x4] dX7_noteTold_11 kk_X7_58 km_X7_setTold.1 km_X7_setTold.2 (ktX7_setTold _ _ _ _ _ _ hq) rfl rfl (Nat.le_of_ble_eq_true rfl) (Nat.le_of_ble_eq_true rfl) trivial (Nat.le_of_ble_eq_true rfl) ?_
    refine GoC.goto 48 dX7_noteTold_14 (by decide) ?_
    cases h
    exact GoC.vret dX7_noteTold_48 rfl
set_option maxRecDepth 20000 in
theorem ktX7_noteTold {l : Launch} {G : Gt} {σ : Hp} (x0 : Nat) (x1 : Int32) (x2 : Int32) (x3 : Int32) (x4 : Int32) : ∀ Z, kX7_noteTold σ x0 x1 x2 x3 x4 = some Z → MtC l G yX7_noteTold cX7_noteTold 5 none 1 24 [G.rv x0, .int x1, .int x2, .int x3, .int x4] σ none Z := fun Z h => MtC.at (by decide +kernel) ⟨G.rv_cat _, rfl, rfl, rfl, rfl, trivial⟩ (Nat.le_of_ble_eq_true rfl) (ksX7_noteTold x0 x1 x2 x3 x4 h)
/-! X7_clearPages -/
def kX7_clearPages (σ : Hp) (x0 : Nat) : Option (Hp) := (pfi σ 17 709 x0 0).bind (fun σ1 => ckd σ1 x0 17 (bd2 (kX7_takePage σ1 x0 1) (fun v2 σ3 => (pfi σ3 17 710 x0 v2).bind (fun σ4 => some σ4))))
set_option maxRecDepth 20000 in
theorem ksX7_clearPages {l : Launch} {G : Gt} {n0 u0 : Nat} {σ : Hp} {Z : Hp} (x0 : Nat) (h : kX7_clearPages σ x0 = some Z) : GoC l G RX7 "clearPages" cX7_clearPages 1 none 8 201 n0 u0 none Z 0 [(0, G.rv x0)] [] σ := by
  unfold kX7_clearPages at h
  refine GC.aload_n 0 dX7_clearPages_0 rfl ?_
  refine GoC.iconst 0 dX7_clearPages_1 (by decide) ?_
  refine GC.puti 7 9 rfl (by decide) (by decide) (rfl) fw_X7_38 (Or.inl rfl) (Or.inl rfl) dX7_clearPages_2 h (fun σ1 h => ?_)
  refine GC.aload_n 0 dX7_clearPages_5 rfl ?_
  refine GC.aload_n 0 dX7_clearPages_6 rfl ?_
  refine GoC.iconst 1 dX7_clearPages_7 (by decide) ?_
  obtain ⟨h0, h⟩ := ckd_some h
  obtain ⟨v2, σ3, hq, h⟩ := bd2_some h
  refine GC.callvI (rest := [G.rv x0]) 7 rfl h0 rfl [.int 1] dX7_clearPages_8 kk_X7_81 km_X7_takePage.1 km_X7_takePage.2 (ktX7_takePage _ _ _ hq) rfl rfl (Nat.le_of_ble_eq_true rfl) (Nat.le_of_ble_eq_true rfl) ⟨G.rv_cat _, trivial⟩ (Nat.le_of_ble_eq_true rfl) ?_
  refine GC.puti 7 10 rfl (by decide) (by decide) (rfl) fw_X7_62 (Or.inl rfl) (Or.inl rfl) dX7_clearPages_11 h (fun σ4 h => ?_)
  cases h
  exact GoC.vret dX7_clearPages_14 rfl
set_option maxRecDepth 20000 in
theorem ktX7_clearPages {l : Launch} {G : Gt} {σ : Hp} (x0 : Nat) : ∀ Z, kX7_clearPages σ x0 = some Z → MtC l G yX7_clearPages cX7_clearPages 1 none 8 201 [G.rv x0] σ none Z := fun Z h => MtC.at (by decide +kernel) ⟨G.rv_cat _, trivial⟩ (Nat.le_of_ble_eq_true rfl) (ksX7_clearPages x0 h)
/-! X8_init -/
def kX8_init (σ : Hp) (x0 : Nat) (x1 : Nat) (x2 : Nat) : Option (Hp) := (nz x0).bind (fun _ => bd2 (nwA σ 1 40) (fun v1 σ2 => (pfr σ2 18 805 x0 v1).bind (fun σ3 => bd2 (nwA σ3 1 40) (fun v4 σ5 => (pfr σ5 18 806 x0 v4).bind (fun σ6 => bd2 (nwA σ6 1 40) (fun v7 σ8 => (pfr σ8 18 807 x0 v7).bind (fun σ9 => bd2 (nwA σ9 1 40) (fun v10 σ11 => (pfr σ11 18 808 x0 v10).bind (fun σ12 => (pfr σ12 18 800 x0 x1).bind (fun σ13 => (pfr σ13 18 801 x0 x2).bind (fun σ14 => some σ14)))))))))))
set_option maxRecDepth 20000 in
theorem ksX8_init {l : Launch} {G : Gt} {n0 u0 : Nat} {σ : Hp} {Z : Hp} (x0 : Nat) (x1 : Nat) (x2 : Nat) (h : kX8_init σ x0 x1 x2 = some Z) : GoC l G RX8 "<init>" cX8_init 3 none 1 20 n0 u0 none Z 0 [(0, G.rv x0), (1, G.rv x1), (2, G.rv x2)] [] σ := by
  unfold kX8_init at h
  refine GC.aload_n 0 dX8_init_0 rfl ?_
  obtain ⟨_, h0, h⟩ := Option.bind_eq_some_iff.mp h
  refine GC.oinit (nz_ne h0) oi_X8_3 oi_inst oi_code dX8_init_1 (Nat.le_of_ble_eq_true rfl) trivial (Nat.le_of_ble_eq_true rfl) ?_
  refine GC.aload_n 0 dX8_init_4 rfl ?_
  refine GoC.bipush 40 dX8_init_5 (by decide) ?_
  refine GC.newI ac_int dX8_init_7 h (fun v1 σ2 h => ?_)
  refine GC.putr 8 5 rfl (by decide) (by decide) (Or.inr ⟨_, rfl⟩) fw_X8_9 (Or.inl rfl) (Or.inr ⟨rfl, rfl, rfl⟩) dX8_init_9 h (fun σ3 h => ?_)
  refine GC.aload_n 0 dX8_init_12 rfl ?_
  refine GoC.bipush 40 dX8_init_13 (by decide) ?_
  refine GC.newI ac_int dX8_init_15 h (fun v4 σ5 h => ?_)
  refine GC.putr 8 6 rfl (by decide) (by decide) (Or.inr ⟨_, rfl⟩) fw_X8_15 (Or.inl rfl) (Or.inr ⟨rfl, rfl, rfl⟩) dX8_init_17 h (fun σ6 h => ?_)
  refine GC.aload_n 0 dX8_init_20 rfl ?_
  refine GoC.bipush 40 dX8_init_21 (by decide) ?_
  refine GC.newI ac_int dX8_init_23 h (fun v7 σ8 h => ?_)
  refine GC.putr 8 7 rfl (by decide) (by decide) (Or.inr ⟨_, rfl⟩) fw_X8_18 (Or.inl rfl) (Or.inr ⟨rfl, rfl, rfl⟩) dX8_init_25 h (fun σ9 h => ?_)
  refine GC.aload_n 0 dX8_init_28 rfl ?_
  refine GoC.bipush 40 dX8_init_29 (by decide) ?_
  refine GC.newI ac_int dX8_init_31 h (fun v10 σ11 h => ?_)
  refine GC.putr 8 8 rfl (by decide) (by decide) (Or.inr ⟨_, rfl⟩) fw_X8_21 (Or.inl rfl) (Or.inr ⟨rfl, rfl, rfl⟩) dX8_init_33 h (fun σ12 h => ?_)
  refine GC.aload_n 0 dX8_init_36 rfl ?_
  refine GC.aload_n 1 dX8_init_37 rfl ?_
  refine GC.putr 8 0 rfl (by decide) (by decide) (Or.inl ⟨_, rfl⟩) fw_X8_24 (Or.inl rfl) (Or.inr ⟨rfl, rfl, rfl⟩) dX8_init_38 h (fun σ13 h => ?_)
  refine GC.aload_n 0 dX8_init_41 rfl ?_
  refine GC.aload_n 2 dX8_init_42 rfl ?_
  refine GC.putr 8 1 rfl (by decide) (by decide) (Or.inl ⟨_, rfl⟩) fw_X8_28 (Or.inl rfl) (Or.inr ⟨rfl, rfl, rfl⟩) dX8_init_43 h (fun σ14 h => ?_)
  cases h
  exact GoC.vret dX8_init_46 rfl
set_option maxRecDepth 20000 in
theorem ktX8_init {l : Launch} {G : Gt} {σ : Hp} (x0 : Nat) (x1 : Nat) (x2 : Nat) : ∀ Z, kX8_init σ x0 x1 x2 = some Z → MtC l G yX8_init cX8_init 3 none 1 20 [G.rv x0, G.rv x1, G.rv x2] σ none Z := fun Z h => MtC.at (by decide +kernel) ⟨G.rv_cat _, G.rv_cat _, G.rv_cat _, trivial⟩ (Nat.le_of_ble_eq_true rfl) (ksX8_init x0 x1 x2 h)
/-! X8_breaksBetween -/
def kX8_breaksBetween_139 (k74 : Nat → Int32 → Int32 → Int32 → Int32 → Hp → Option (Int32 × Hp)) (x0 : Nat) (x2 : Int32) (x3 : Int32) (x4 : Int32) (x5 : Int32) (σ : Hp) : Option (Int32 × Hp) := k74 x0 x2 x3 x4 (x5 + 1) σ
def kX8_breaksBetween_74  : Nat → Nat → Int32 → Int32 → Int32 → Int32 → Hp → Option (Int32 × Hp)
  | 0, _, _, _, _, _, _ => none
  | n + 1, x0, x2, x3, x4, x5, σ => if 40 ≤ x5 then (zb 0).bind (fun w => some (w, σ)) else if x5 = x2 then kX8_breaksBetween_139 (kX8_breaksBetween_74 n) x0 x2 x3 x4 x5 σ else if x5 = x3 then kX8_breaksBetween_139 (kX8_breaksBetween_74 n) x0 x2 x3 x4 x5 σ else (gfr σ 18 800 x0).bind (fun v1 => ckd σ v1 17 ((kX7_has σ v1 x5).bind (fun v2 => if v2 = 0 then kX8_breaksBetween_139 (kX8_breaksBetween_74 n) x0 x2 x3 x4 x5 σ else (gfr σ 18 801 x0).bind (fun v3 => ckd σ v3 11 ((kX1_of σ v3 x2 x5).bind (fun v4 => (gfr σ 18 801 x0).bind (fun v5 => ckd σ v5 11 ((kX1_of σ v5 x3 x5).bind (fun v6 => if v4 ≤ (x4 + v6) then kX8_breaksBetween_139 (kX8_breaksBetween_74 n) x0 x2 x3 x4 x5 σ else (pfi σ 18 804 x0 x5).bind (fun σ7 => (zb 1).bind (fun w => some (w, σ7))))))))))))
def kX8_breaksBetween (σ : Hp) (x0 : Nat) (x1 : Int32) (x2 : Int32) (x3 : Int32) : Option (Int32 × Hp) := if x1 = 1 then (gfr σ 18 801 x0).bind (fun v14 => ckd σ v14 11 ((kX1_of σ v14 x2 x3).bind (fun v15 => if v15 = 0 then (zb 1).bind (fun w => some (w, σ)) else (zb 0).bind (fun w => some (w, σ))))) else if x1 = 2 then if x3 ≤ x2 then (zb 0).bind (fun w => some (w, σ)) else (gfr σ 18 801 x0).bind (fun v10 => ckd σ v10 11 ((kX1_of σ v10 x2 x3).bind (fun v11 => (gfr σ 18 801 x0).bind (fun v12 => ckd σ v12 11 ((kX1_of σ v12 x3 x2).bind (fun v13 => if v11 = v13 then (zb 0).bind (fun w => some (w, σ)) else (zb 1).bind (fun w => some (w, σ)))))))) else (gfr σ 18 801 x0).bind (fun v8 => ckd σ v8 11 ((kX1_of σ v8 x2 x3).bind (fun v9 => kX8_breaksBetween_74 FU x0 x2 x3 v9 0 σ)))
set_option maxRecDepth 20000 in
theorem ksX8_breaksBetween_139 {l : Launch} {G : Gt} {n0 u0 : Nat} {Z : Int32 × Hp} (k74 : Nat → Int32 → Int32 → Int32 → Int32 → Hp → Option (Int32 × Hp)) (h74 : ∀ (x0 : Nat) (x2 : Int32) (x3 : Int32) (x4 : Int32) (x5 : Int32) (σ : Hp), k74 x0 x2 x3 x4 x5 σ = some Z → GoC l G RX8 "breaksBetween" cX8_breaksBetween 6 (some .boolean) 1 22 n0 u0 (some (.int Z.1)) Z.2 74 [(0, G.rv x0), (2, .int x2), (3, .int x3), (4, .int x4), (5, .int x5)] [] σ) (x0 : Nat) (x2 : Int32) (x3 : Int32) (x4 : Int32) (x5 : Int32) (σ : Hp) (h : kX8_breaksBetween_139 k74 x0 x2 x3 x4 x5 σ = some Z) : GoC l G RX8 "breaksBetween" cX8_breaksBetween 6 (some .boolean) 1 22 n0 u0 (some (.int Z.1)) Z.2 139 [(0, G.rv x0), (2, .int x2), (3, .int x3), (4, .int x4), (5, .int x5)] [] σ := by
  unfold kX8_breaksBetween_139 at h
  refine GoC.iinc (w := 1) 4 [(0, G.rv x0), (2, .int x2), (3, .int x3), (4, .int x4), (5, .int (x5 + 1))] dX8_breaksBetween_139 rfl (by decide) (by decide) rfl ?_
  refine GoC.goto 74 dX8_breaksBetween_142 (by decide) ?_
  exact h74 _ _ _ _ _ _ h
set_option maxRecDepth 20000 in
theorem ksX8_breaksBetween_74 {l : Launch} {G : Gt} {n0 u0 : Nat} {Z : Int32 × Hp} (n : Nat) : ∀ (x0 : Nat) (x2 : Int32) (x3 : Int32) (x4 : Int32) (x5 : Int32) (σ : Hp), kX8_breaksBetween_74 n x0 x2 x3 x4 x5 σ = some Z → GoC l G RX8 "breaksBetween" cX8_breaksBetween 6 (some .boolean) 1 22 n0 u0 (some (.int Z.1)) Z.2 74 [(0, G.rv x0), (2, .int x2), (3, .int x3), (4, .int x4), (5, .int x5)] [] σ := by
  induction n with
  | zero => intro x0 x2 x3 x4 x5 σ h; rw [kX8_breaksBetween_74] at h; cases h
  | succ n ih =>
    intro x0 x2 x3 x4 x5 σ h
    rw [kX8_breaksBetween_74] at h
    refine GoC.iload 4 dX8_breaksBetween_74 rfl ?_
    refine GoC.bipush 40 dX8_breaksBetween_76 (by decide) ?_
    refine GoC.icmp_ge 145 dX8_breaksBetween_78 (by decide) h (fun h => ?_) (fun h => ?_)
    · refine GoC.iconst 0 dX8_breaksBetween_145 (by decide) ?_
      obtain ⟨w, hw, h⟩ := Option.bind_eq_some_iff.mp h
      cases h
      exact GoC.zret dX8_breaksBetween_146 rfl hw
    · refine GoC.iload 4 dX8_breaksBetween_81 rfl ?_
      refine GoC.iload_n 1 dX8_breaksBetween_83 rfl ?_
      refine GoC.icmp_eq 139 dX8_breaksBetween_84 (by decide) h (fun h => ?_) (fun h => ?_)
      · exact ksX8_breaksBetween_139 _ ih _ _ _ _ _ _ h
      · refine GoC.iload 4 dX8_breaksBetween_87 rfl ?_
        refine GoC.iload_n 2 dX8_breaksBetween_89 rfl ?_
        refine GoC.icmp_eq 139 dX8_breaksBetween_90 (by decide) h (fun h => ?_) (fun h => ?_)
        · exact ksX8_breaksBetween_139 _ ih _ _ _ _ _ _ h
        · refine GC.aload_n 0 dX8_breaksBetween_93 rfl ?_
          refine GC.getr 8 0 rfl (by decide) (by decide) fw_X8_24 (Or.inl rfl) dX8_breaksBetween_94 h (fun v1 h => ?_)
          refine GoC.iload 4 dX8_breaksBetween_97 rfl ?_
          obtain ⟨h0, h⟩ := ckd_some h
          obtain ⟨v2, hq, h⟩ := Option.bind_eq_some_iff.mp h
          refine GC.callvI (rest := []) 7 rfl h0 rfl [.int x5] dX8_breaksBetween_99 kk_X8_42 km_X7_has.1 km_X7_has.2 (ktX7_has _ _ _ hq) rfl rfl (Nat.le_of_ble_eq_true rfl) (Nat.le_of_ble_eq_true rfl) trivial (Nat.le_of_ble_eq_true rfl) ?_
          refine GoC.if_eq 139 dX8_breaksBetween_102 (by decide) h (fun h => ?_) (fun h => ?_)
          · exact ksX8_breaksBetween_139 _ ih _ _ _ _ _ _ h
          · refine GC.aload_n 0 dX8_breaksBetween_105 rfl ?_
            refine GC.getr 8 1 rfl (by decide) (by decide) fw_X8_28 (Or.inl rfl) dX8_breaksBetween_106 h (fun v3 h => ?_)
            refine GoC.iload_n 1 dX8_breaksBetween_109 rfl ?_
            refine GoC.iload 4 dX8_breaksBetween_110 rfl ?_
            obtain ⟨h0, h⟩ := ckd_some h
            obtain ⟨v4, hq, h⟩ := Option.bind_eq_some_iff.mp h
            refine GC.callvI (rest := []) 1 rfl h0 rfl [.int x2, .int x5] dX8_breaksBetween_112 kk_X8_52 km_X1_of.1 km_X1_of.2 (ktX1_of _ _ _ _ hq) rfl rfl (Nat.le_of_ble_eq_true rfl) (Nat.le_of_ble_eq_true rfl) trivial (Nat.le_of_ble_eq_true rfl) ?_
            refine GoC.iload 3 dX8_breaksBetween_115 rfl ?_
            refine GC.aload_n 0 dX8_breaksBetween_117 rfl ?_
            refine GC.getr 8 1 rfl (by decide) (by decide) fw_X8_28 (Or.inl rfl) dX8_breaksBetween_118 h (fun v5 h => ?_)
            refine GoC.iload_n 2 dX8_breaksBetween_121 rfl ?_
            refine GoC.iload 4 dX8_breaksBetween_122 rfl ?_
            obtain ⟨h0, h⟩ := ckd_some h
            obtain ⟨v6, hq, h⟩ := Option.bind_eq_some_iff.mp h
            refine GC.callvI (rest := [.int x4, .int v4]) 1 rfl h0 rfl [.int x3, .int x5] dX8_breaksBetween_124 kk_X8_52 km_X1_of.1 km_X1_of.2 (ktX1_of _ _ _ _ hq) rfl rfl (Nat.le_of_ble_eq_true rfl) (Nat.le_of_ble_eq_true rfl) ⟨rfl, rfl, trivial⟩ (Nat.le_of_ble_eq_true rfl) ?_
            refine GoC.iadd dX8_breaksBetween_127 ?_
            refine GoC.icmp_le 139 dX8_breaksBetween_128 (by decide) h (fun h => ?_) (fun h => ?_)
            · exact ksX8_breaksBetween_139 _ ih _ _ _ _ _ _ h
            · refine GC.aload_n 0 dX8_breaksBetween_131 rfl ?_
              refine GoC.iload 4 dX8_breaksBetween_132 rfl ?_
              refine GC.puti 8 4 rfl (by decide) (by decide) (rfl) fw_X8_39 (Or.inl rfl) (Or.inl rfl) dX8_breaksBetween_134 h (fun σ7 h => ?_)
              refine GoC.iconst 1 dX8_breaksBetween_137 (by decide) ?_
              obtain ⟨w, hw, h⟩ := Option.bind_eq_some_iff.mp h
              cases h
              exact GoC.zret dX8_breaksBetween_138 rfl hw
set_option maxRecDepth 20000 in
theorem ksX8_breaksBetween {l : Launch} {G : Gt} {n0 u0 : Nat} {σ : Hp} {Z : Int32 × Hp} (x0 : Nat) (x1 : Int32) (x2 : Int32) (x3 : Int32) (h : kX8_breaksBetween σ x0 x1 x2 x3 = some Z) : GoC l G RX8 "breaksBetween" cX8_breaksBetween 6 (some .boolean) 1 22 n0 u0 (some (.int Z.1)) Z.2 0 [(0, G.rv x0), (1, .int x1), (2, .int x2), (3, .int x3)] [] σ := by
  unfold kX8_breaksBetween at h
  refine GoC.iload_n 1 dX8_breaksBetween_0 rfl ?_
  refine GoC.iconst 1 dX8_breaksBetween_1 (by decide) ?_
  refine GoC.icmp_ne 23 dX8_breaksBetween_2 (by decide) h (fun h => ?_) (fun h => ?_)
  · refine GoC.iload_n 1 dX8_breaksBetween_23 rfl ?_
    refine GoC.iconst 2 dX8_breaksBetween_24 (by decide) ?_
    refine GoC.icmp_ne 60 dX8_breaksBetween_25 (by decide) h (fun h => ?_) (fun h => ?_)
    · refine GC.aload_n 0 dX8_breaksBetween_60 rfl ?_
      refine GC.getr 8 1 rfl (by decide) (by decide) fw_X8_28 (Or.inl rfl) dX8_breaksBetween_61 h (fun v8 h => ?_)
      refine GoC.iload_n 2 dX8_breaksBetween_64 rfl ?_
      refine GoC.iload_n 3 dX8_breaksBetween_65 rfl ?_
      obtain ⟨h0, h⟩ := ckd_some h
      obtain ⟨v9, hq, h⟩ := Option.bind_eq_some_iff.mp h
      refine GC.callvI (rest := []) 1 rfl h0 rfl [.int x2, .int x3] dX8_breaksBetween_66 kk_X8_52 km_X1_of.1 km_X1_of.2 (ktX1_of _ _ _ _ hq) rfl rfl (Nat.le_of_ble_eq_true rfl) (Nat.le_of_ble_eq_true rfl) trivial (Nat.le_of_ble_eq_true rfl) ?_
      refine GoC.istore [(0, G.rv x0), (1, .int x1), (2, .int x2), (3, .int x3), (4, .int v9)] dX8_breaksBetween_69 (by decide) rfl ?_
      refine GoC.iconst 0 dX8_breaksBetween_71 (by decide) ?_
      refine GoC.istore [(0, G.rv x0), (1, .int x1), (2, .int x2), (3, .int x3), (4, .int v9), (5, .int 0)] dX8_breaksBetween_72 (by decide) rfl ?_
      refine GoC.sub [0, 2, 3, 4, 5] rfl ?_
      exact ksX8_breaksBetween_74 _ _ _ _ _ _ _ h
    · refine GoC.iload_n 2 dX8_breaksBetween_28 rfl ?_
      refine GoC.iload_n 3 dX8_breaksBetween_29 rfl ?_
      refine GoC.icmp_ge 58 dX8_breaksBetween_30 (by decide) h (fun h => ?_) (fun h => ?_)
      · refine GoC.iconst 0 dX8_breaksBetween_58 (by decide) ?_
        obtain ⟨w, hw, h⟩ := Option.bind_eq_some_iff.mp h
        cases h
        exact GoC.zret dX8_breaksBetween_59 rfl hw
      · refine GC.aload_n 0 dX8_breaksBetween_33 rfl ?_
        refine GC.getr 8 1 rfl (by decide) (by decide) fw_X8_28 (Or.inl rfl) dX8_breaksBetween_34 h (fun v10 h => ?_)
        refine GoC.iload_n 2 dX8_breaksBetween_37 rfl ?_
        refine GoC.iload_n 3 dX8_breaksBetween_38 rfl ?_
        obtain ⟨h0, h⟩ := ckd_some h
        obtain ⟨v11, hq, h⟩ := Option.bind_eq_some_iff.mp h
        refine GC.callvI (rest := []) 1 rfl h0 rfl [.int x2, .int x3] dX8_breaksBetween_39 kk_X8_52 km_X1_of.1 km_X1_of.2 (ktX1_of _ _ _ _ hq) rfl rfl (Nat.le_of_ble_eq_true rfl) (Nat.le_of_ble_eq_true rfl) trivial (Nat.le_of_ble_eq_true rfl) ?_
        refine GC.aload_n 0 dX8_breaksBetween_42 rfl ?_
        refine GC.getr 8 1 rfl (by decide) (by decide) fw_X8_28 (Or.inl rfl) dX8_breaksBetween_43 h (fun v12 h => ?_)
        refine GoC.iload_n 3 dX8_breaksBetween_46 rfl ?_
        refine GoC.iload_n 2 dX8_breaksBetween_47 rfl ?_
        obtain ⟨h0, h⟩ := ckd_some h
        obtain ⟨v13, hq, h⟩ := Option.bind_eq_some_iff.mp h
        refine GC.callvI (rest := [.int v11]) 1 rfl h0 rfl [.int x3, .int x2] dX8_breaksBetween_48 kk_X8_52 km_X1_of.1 km_X1_of.2 (ktX1_of _ _ _ _ hq) rfl rfl (Nat.le_of_ble_eq_true rfl) (Nat.le_of_ble_eq_true rfl) ⟨rfl, trivial⟩ (Nat.le_of_ble_eq_true rfl) ?_
        refine GoC.icmp_eq 58 dX8_breaksBetween_51 (by decide) h (fun h => ?_) (fun h => ?_)
        · refine GoC.iconst 0 dX8_breaksBetween_58 (by decide) ?_
          obtain ⟨w, hw, h⟩ := Option.bind_eq_some_iff.mp h
          cases h
          exact GoC.zret dX8_breaksBetween_59 rfl hw
        · refine GoC.iconst 1 dX8_breaksBetween_54 (by decide) ?_
          refine GoC.goto 59 dX8_breaksBetween_55 (by decide) ?_
          obtain ⟨w, hw, h⟩ := Option.bind_eq_some_iff.mp h
          cases h
          exact GoC.zret dX8_breaksBetween_59 rfl hw
  · refine GC.aload_n 0 dX8_breaksBetween_5 rfl ?_
    refine GC.getr 8 1 rfl (by decide) (by decide) fw_X8_28 (Or.inl rfl) dX8_breaksBetween_6 h (fun v14 h => ?_)
    refine GoC.iload_n 2 dX8_breaksBetween_9 rfl ?_
    refine GoC.iload_n 3 dX8_breaksBetween_10 rfl ?_
    obtain ⟨h0, h⟩ := ckd_some h
    obtain ⟨v15, hq, h⟩ := Option.bind_eq_some_iff.mp h
    refine GC.callvI (rest := []) 1 rfl h0 rfl [.int x2, .int x3] dX8_breaksBetween_11 kk_X8_52 km_X1_of.1 km_X1_of.2 (ktX1_of _ _ _ _ hq) rfl rfl (Nat.le_of_ble_eq_true rfl) (Nat.le_of_ble_eq_true rfl) trivial (Nat.le_of_ble_eq_true rfl) ?_
    refine GoC.if_ne 21 dX8_breaksBetween_14 (by decide) h (fun h => ?_) (fun h => ?_)
    · refine GoC.iconst 0 dX8_breaksBetween_21 (by decide) ?_
      obtain ⟨w, hw, h⟩ := Option.bind_eq_some_iff.mp h
      cases h
      exact GoC.zret dX8_breaksBetween_22 rfl hw
    · refine GoC.iconst 1 dX8_breaksBetween_17 (by decide) ?_
      refine GoC.goto 22 dX8_breaksBetween_18 (by decide) ?_
      obtain ⟨w, hw, h⟩ := Option.bind_eq_some_iff.mp h
      cases h
      exact GoC.zret dX8_breaksBetween_22 rfl hw
set_option maxRecDepth 20000 in
theorem ktX8_breaksBetween {l : Launch} {G : Gt} {σ : Hp} (x0 : Nat) (x1 : Int32) (x2 : Int32) (x3 : Int32) : ∀ Z, kX8_breaksBetween σ x0 x1 x2 x3 = some Z → MtC l G yX8_breaksBetween cX8_breaksBetween 6 (some .boolean) 1 22 [G.rv x0, .int x1, .int x2, .int x3] σ (some (.int Z.1)) Z.2 := fun Z h => MtC.at (by decide +kernel) ⟨G.rv_cat _, rfl, rfl, rfl, trivial⟩ (Nat.le_of_ble_eq_true rfl) (ksX8_breaksBetween x0 x1 x2 x3 h)
/-! X8_breaksFrom -/
def kX8_breaksFrom_63 (k24 : Nat → Int32 → Int32 → Int32 → Hp → Option (Int32 × Hp)) (x0 : Nat) (x1 : Int32) (x2 : Int32) (x3 : Int32) (σ : Hp) : Option (Int32 × Hp) := k24 x0 x1 x2 (x3 + 1) σ
def kX8_breaksFrom_24  : Nat → Nat → Int32 → Int32 → Int32 → Hp → Option (Int32 × Hp)
  | 0, _, _, _, _, _ => none
  | n + 1, x0, x1, x2, x3, σ => if 40 ≤ x3 then (zb 0).bind (fun w => some (w, σ)) else if x3 = x2 then kX8_breaksFrom_63 (kX8_breaksFrom_24 n) x0 x1 x2 x3 σ else (gfr σ 18 800 x0).bind (fun v1 => ckd σ v1 17 ((kX7_has σ v1 x3).bind (fun v2 => if v2 = 0 then kX8_breaksFrom_63 (kX8_breaksFrom_24 n) x0 x1 x2 x3 σ else ckd σ x0 18 (bd2 (kX8_breaksBetween σ x0 x1 x2 x3) (fun v3 σ4 => if v3 = 0 then kX8_breaksFrom_63 (kX8_breaksFrom_24 n) x0 x1 x2 x3 σ4 else (pfi σ4 18 803 x0 x3).bind (fun σ5 => (zb 1).bind (fun w => some (w, σ5))))))))
def kX8_breaksFrom (σ : Hp) (x0 : Nat) (x1 : Int32) (x2 : Int32) : Option (Int32 × Hp) := if x1 = 0 then (gfr σ 18 801 x0).bind (fun v6 => ckd σ v6 11 ((kX1_of σ v6 x2 x2).bind (fun v7 => if v7 = 0 then (zb 0).bind (fun w => some (w, σ)) else (zb 1).bind (fun w => some (w, σ))))) else kX8_breaksFrom_24 FU x0 x1 x2 0 σ
set_option maxRecDepth 20000 in
theorem ksX8_breaksFrom_63 {l : Launch} {G : Gt} {n0 u0 : Nat} {Z : Int32 × Hp} (k24 : Nat → Int32 → Int32 → Int32 → Hp → Option (Int32 × Hp)) (h24 : ∀ (x0 : Nat) (x1 : Int32) (x2 : Int32) (x3 : Int32) (σ : Hp), k24 x0 x1 x2 x3 σ = some Z → GoC l G RX8 "breaksFrom" cX8_breaksFrom 4 (some .boolean) 2 47 n0 u0 (some (.int Z.1)) Z.2 24 [(0, G.rv x0), (1, .int x1), (2, .int x2), (3, .int x3)] [] σ) (x0 : Nat) (x1 : Int32) (x2 : Int32) (x3 : Int32) (σ : Hp) (h : kX8_breaksFrom_63 k24 x0 x1 x2 x3 σ = some Z) : GoC l G RX8 "breaksFrom" cX8_breaksFrom 4 (some .boolean) 2 47 n0 u0 (some (.int Z.1)) Z.2 63 [(0, G.rv x0), (1, .int x1), (2, .int x2), (3, .int x3)] [] σ := by
  unfold kX8_breaksFrom_63 at h
  refine GoC.iinc (w := 1) 3 [(0, G.rv x0), (1, .int x1), (2, .int x2), (3, .int (x3 + 1))] dX8_breaksFrom_63 rfl (by decide) (by decide) rfl ?_
  refine GoC.goto 24 dX8_breaksFrom_66 (by decide) ?_
  exact h24 _ _ _ _ _ h
set_option maxRecDepth 20000 in
theorem ksX8_breaksFrom_24 {l : Launch} {G : Gt} {n0 u0 : Nat} {Z : Int32 × Hp} (n : Nat) : ∀ (x0 : Nat) (x1 : Int32) (x2 : Int32) (x3 : Int32) (σ : Hp), kX8_breaksFrom_24 n x0 x1 x2 x3 σ = some Z → GoC l G RX8 "breaksFrom" cX8_breaksFrom 4 (some .boolean) 2 47 n0 u0 (some (.int Z.1)) Z.2 24 [(0, G.rv x0), (1, .int x1), (2, .int x2), (3, .int x3)] [] σ := by
  induction n with
  | zero => intro x0 x1 x2 x3 σ h; rw [kX8_breaksFrom_24] at h; cases h
  | succ n ih =>
    intro x0 x1 x2 x3 σ h
    rw [kX8_breaksFrom_24] at h
    refine GoC.iload_n 3 dX8_breaksFrom_24 rfl ?_
    refine GoC.bipush 40 dX8_breaksFrom_25 (by decide) ?_
    refine GoC.icmp_ge 69 dX8_breaksFrom_27 (by decide) h (fun h => ?_) (fun h => ?_)
    · refine GoC.iconst 0 dX8_breaksFrom_69 (by decide) ?_
      obtain ⟨w, hw, h⟩ := Option.bind_eq_some_iff.mp h
      cases h
      exact GoC.zret dX8_breaksFrom_70 rfl hw
    · refine GoC.iload_n 3 dX8_breaksFrom_30 rfl ?_
      refine GoC.iload_n 2 dX8_breaksFrom_31 rfl ?_
      refine GoC.icmp_eq 63 dX8_breaksFrom_32 (by decide) h (fun h => ?_) (fun h => ?_)
      · exact ksX8_breaksFrom_63 _ ih _ _ _ _ _ h
      · refine GC.aload_n 0 dX8_breaksFrom_35 rfl ?_
        refine GC.getr 8 0 rfl (by decide) (by decide) fw_X8_24 (Or.inl rfl) dX8_breaksFrom_36 h (fun v1 h => ?_)
        refine GoC.iload_n 3 dX8_breaksFrom_39 rfl ?_
        obtain ⟨h0, h⟩ := ckd_some h
        obtain ⟨v2, hq, h⟩ := Option.bind_eq_some_iff.mp h
        refine GC.callvI (rest := []) 7 rfl h0 rfl [.int x3] dX8_breaksFrom_40 kk_X8_42 km_X7_has.1 km_X7_has.2 (ktX7_has _ _ _ hq) rfl rfl (Nat.le_of_ble_eq_true rfl) (Nat.le_of_ble_eq_true rfl) trivial (Nat.le_of_ble_eq_true rfl) ?_
        refine GoC.if_eq 63 dX8_breaksFrom_43 (by decide) h (fun h => ?_) (fun h => ?_)
        · exact ksX8_breaksFrom_63 _ ih _ _ _ _ _ h
        · refine GC.aload_n 0 dX8_breaksFrom_46 rfl ?_
          refine GoC.iload_n 1 dX8_breaksFrom_47 rfl ?_
          refine GoC.iload_n 2 dX8_breaksFrom_48 rfl ?_
          refine GoC.iload_n 3 dX8_breaksFrom_49 rfl ?_
          obtain ⟨h0, h⟩ := ckd_some h
          obtain ⟨v3, σ4, hq, h⟩ := bd2_some h
          refine GC.callvI (rest := []) 8 rfl h0 rfl [.int x1, .int x2, .int x3] dX8_breaksFrom_50 kk_X8_58 km_X8_breaksBetween.1 km_X8_breaksBetween.2 (ktX8_breaksBetween _ _ _ _ _ hq) rfl rfl (Nat.le_of_ble_eq_true rfl) (Nat.le_of_ble_eq_true rfl) trivial (Nat.le_of_ble_eq_true rfl) ?_
          refine GoC.if_eq 63 dX8_breaksFrom_53 (by decide) h (fun h => ?_) (fun h => ?_)
          · exact ksX8_breaksFrom_63 _ ih _ _ _ _ _ h
          · refine GC.aload_n 0 dX8_breaksFrom_56 rfl ?_
            refine GoC.iload_n 3 dX8_breaksFrom_57 rfl ?_
            refine GC.puti 8 3 rfl (by decide) (by decide) (rfl) fw_X8_36 (Or.inl rfl) (Or.inl rfl) dX8_breaksFrom_58 h (fun σ5 h => ?_)
            refine GoC.iconst 1 dX8_breaksFrom_61 (by decide) ?_
            obtain ⟨w, hw, h⟩ := Option.bind_eq_some_iff.mp h
            cases h
            exact GoC.zret dX8_breaksFrom_62 rfl hw
set_option maxRecDepth 20000 in
theorem ksX8_breaksFrom {l : Launch} {G : Gt} {n0 u0 : Nat} {σ : Hp} {Z : Int32 × Hp} (x0 : Nat) (x1 : Int32) (x2 : Int32) (h : kX8_breaksFrom σ x0 x1 x2 = some Z) : GoC l G RX8 "breaksFrom" cX8_breaksFrom 4 (some .boolean) 2 47 n0 u0 (some (.int Z.1)) Z.2 0 [(0, G.rv x0), (1, .int x1), (2, .int x2)] [] σ := by
  unfold kX8_breaksFrom at h
  refine GoC.iload_n 1 dX8_breaksFrom_0 rfl ?_
  refine GoC.if_ne 22 dX8_breaksFrom_1 (by decide) h (fun h => ?_) (fun h => ?_)
  · refine GoC.iconst 0 dX8_breaksFrom_22 (by decide) ?_
    refine GoC.istore_n [(0, G.rv x0), (1, .int x1), (2, .int x2), (3, .int 0)] dX8_breaksFrom_23 (by decide) rfl ?_
    exact ksX8_breaksFrom_24 _ _ _ _ _ _ h
  · refine GC.aload_n 0 dX8_breaksFrom_4 rfl ?_
    refine GC.getr 8 1 rfl (by decide) (by decide) fw_X8_28 (Or.inl rfl) dX8_breaksFrom_5 h (fun v6 h => ?_)
    refine GoC.iload_n 2 dX8_breaksFrom_8 rfl ?_
    refine GoC.iload_n 2 dX8_breaksFrom_9 rfl ?_
    obtain ⟨h0, h⟩ := ckd_some h
    obtain ⟨v7, hq, h⟩ := Option.bind_eq_some_iff.mp h
    refine GC.callvI (rest := []) 1 rfl h0 rfl [.int x2, .int x2] dX8_breaksFrom_10 kk_X8_52 km_X1_of.1 km_X1_of.2 (ktX1_of _ _ _ _ hq) rfl rfl (Nat.le_of_ble_eq_true rfl) (Nat.le_of_ble_eq_true rfl) trivial (Nat.le_of_ble_eq_true rfl) ?_
    refine GoC.if_eq 20 dX8_breaksFrom_13 (by decide) h (fun h => ?_) (fun h => ?_)
    · refine GoC.iconst 0 dX8_breaksFrom_20 (by decide) ?_
      obtain ⟨w, hw, h⟩ := Option.bind_eq_some_iff.mp h
      cases h
      exact GoC.zret dX8_breaksFrom_21 rfl hw
    · refine GoC.iconst 1 dX8_breaksFrom_16 (by decide) ?_
      refine GoC.goto 21 dX8_breaksFrom_17 (by decide) ?_
      obtain ⟨w, hw, h⟩ := Option.bind_eq_some_iff.mp h
      cases h
      exact GoC.zret dX8_breaksFrom_21 rfl hw
set_option maxRecDepth 20000 in
theorem ktX8_breaksFrom {l : Launch} {G : Gt} {σ : Hp} (x0 : Nat) (x1 : Int32) (x2 : Int32) : ∀ Z, kX8_breaksFrom σ x0 x1 x2 = some Z → MtC l G yX8_breaksFrom cX8_breaksFrom 4 (some .boolean) 2 47 [G.rv x0, .int x1, .int x2] σ (some (.int Z.1)) Z.2 := fun Z h => MtC.at (by decide +kernel) ⟨G.rv_cat _, rfl, rfl, trivial⟩ (Nat.le_of_ble_eq_true rfl) (ksX8_breaksFrom x0 x1 x2 h)
/-! X8_findBreak -/
def kX8_findBreak_61 (k28 : Nat → Int32 → Int32 → Hp → Option (Int32 × Hp)) (x0 : Nat) (x1 : Int32) (x2 : Int32) (σ : Hp) : Option (Int32 × Hp) := k28 x0 x1 (x2 + 1) σ
def kX8_findBreak_28  : Nat → Nat → Int32 → Int32 → Hp → Option (Int32 × Hp)
  | 0, _, _, _, _ => none
  | n + 1, x0, x1, x2, σ => if 40 ≤ x2 then (zb 0).bind (fun w => some (w, σ)) else (gfr σ 18 800 x0).bind (fun v1 => ckd σ v1 17 ((kX7_has σ v1 x2).bind (fun v2 => if v2 = 0 then kX8_findBreak_61 (kX8_findBreak_28 n) x0 x1 x2 σ else ckd σ x0 18 (bd2 (kX8_breaksFrom σ x0 x1 x2) (fun v3 σ4 => if v3 = 0 then kX8_findBreak_61 (kX8_findBreak_28 n) x0 x1 x2 σ4 else (pfi σ4 18 802 x0 x2).bind (fun σ5 => (zb 1).bind (fun w => some (w, σ5))))))))
def kX8_findBreak (σ : Hp) (x0 : Nat) (x1 : Int32) : Option (Int32 × Hp) := (pfi σ 18 802 x0 (-1)).bind (fun σ6 => (pfi σ6 18 803 x0 (-1)).bind (fun σ7 => (pfi σ7 18 804 x0 (-1)).bind (fun σ8 => if x1 < 0 then (zb 0).bind (fun w => some (w, σ8)) else if x1 ≤ 3 then kX8_findBreak_28 FU x0 x1 0 σ8 else (zb 0).bind (fun w => some (w, σ8)))))
set_option maxRecDepth 20000 in
theorem ksX8_findBreak_61 {l : Launch} {G : Gt} {n0 u0 : Nat} {Z : Int32 × Hp} (k28 : Nat → Int32 → Int32 → Hp → Option (Int32 × Hp)) (h28 : ∀ (x0 : Nat) (x1 : Int32) (x2 : Int32) (σ : Hp), k28 x0 x1 x2 σ = some Z → GoC l G RX8 "findBreak" cX8_findBreak 3 (some .boolean) 3 70 n0 u0 (some (.int Z.1)) Z.2 28 [(0, G.rv x0), (1, .int x1), (2, .int x2)] [] σ) (x0 : Nat) (x1 : Int32) (x2 : Int32) (σ : Hp) (h : kX8_findBreak_61 k28 x0 x1 x2 σ = some Z) : GoC l G RX8 "findBreak" cX8_findBreak 3 (some .boolean) 3 70 n0 u0 (some (.int Z.1)) Z.2 61 [(0, G.rv x0), (1, .int x1), (2, .int x2)] [] σ := by
  unfold kX8_findBreak_61 at h
  refine GoC.iinc (w := 1) 2 [(0, G.rv x0), (1, .int x1), (2, .int (x2 + 1))] dX8_findBreak_61 rfl (by decide) (by decide) rfl ?_
  refine GoC.goto 28 dX8_findBreak_64 (by decide) ?_
  exact h28 _ _ _ _ h
set_option maxRecDepth 20000 in
theorem ksX8_findBreak_28 {l : Launch} {G : Gt} {n0 u0 : Nat} {Z : Int32 × Hp} (n : Nat) : ∀ (x0 : Nat) (x1 : Int32) (x2 : Int32) (σ : Hp), kX8_findBreak_28 n x0 x1 x2 σ = some Z → GoC l G RX8 "findBreak" cX8_findBreak 3 (some .boolean) 3 70 n0 u0 (some (.int Z.1)) Z.2 28 [(0, G.rv x0), (1, .int x1), (2, .int x2)] [] σ := by
  induction n with
  | zero => intro x0 x1 x2 σ h; rw [kX8_findBreak_28] at h; cases h
  | succ n ih =>
    intro x0 x1 x2 σ h
    rw [kX8_findBreak_28] at h
    refine GoC.iload_n 2 dX8_findBreak_28 rfl ?_
    refine GoC.bipush 40 dX8_findBreak_29 (by decide) ?_
    refine GoC.icmp_ge 67 dX8_findBreak_31 (by decide) h (fun h => ?_) (fun h => ?_)
    · refine GoC.iconst 0 dX8_findBreak_67 (by decide) ?_
      obtain ⟨w, hw, h⟩ := Option.bind_eq_some_iff.mp h
      cases h
      exact GoC.zret dX8_findBreak_68 rfl hw
    · refine GC.aload_n 0 dX8_findBreak_34 rfl ?_
      refine GC.getr 8 0 rfl (by decide) (by decide) fw_X8_24 (Or.inl rfl) dX8_findBreak_35 h (fun v1 h => ?_)
      refine GoC.iload_n 2 dX8_findBreak_38 rfl ?_
      obtain ⟨h0, h⟩ := ckd_some h
      obtain ⟨v2, hq, h⟩ := Option.bind_eq_some_iff.mp h
      refine GC.callvI (rest := []) 7 rfl h0 rfl [.int x2] dX8_findBreak_39 kk_X8_42 km_X7_has.1 km_X7_has.2 (ktX7_has _ _ _ hq) rfl rfl (Nat.le_of_ble_eq_true rfl) (Nat.le_of_ble_eq_true rfl) trivial (Nat.le_of_ble_eq_true rfl) ?_
      refine GoC.if_eq 61 dX8_findBreak_42 (by decide) h (fun h => ?_) (fun h => ?_)
      · exact ksX8_findBreak_61 _ ih _ _ _ _ h
      · refine GC.aload_n 0 dX8_findBreak_45 rfl ?_
        refine GoC.iload_n 1 dX8_findBreak_46 rfl ?_
        refine GoC.iload_n 2 dX8_findBreak_47 rfl ?_
        obtain ⟨h0, h⟩ := ckd_some h
        obtain ⟨v3, σ4, hq, h⟩ := bd2_some h
        refine GC.callvI (rest := []) 8 rfl h0 rfl [.int x1, .int x2] dX8_findBreak_48 kk_X8_48 km_X8_breaksFrom.1 km_X8_breaksFrom.2 (ktX8_breaksFrom _ _ _ _ hq) rfl rfl (Nat.le_of_ble_eq_true rfl) (Nat.le_of_ble_eq_true rfl) trivial (Nat.le_of_ble_eq_true rfl) ?_
        refine GoC.if_eq 61 dX8_findBreak_51 (by decide) h (fun h => ?_) (fun h => ?_)
        · exact ksX8_findBreak_61 _ ih _ _ _ _ h
        · refine GC.aload_n 0 dX8_findBreak_54 rfl ?_
          refine GoC.iload_n 2 dX8_findBreak_55 rfl ?_
          refine GC.puti 8 2 rfl (by decide) (by decide) (rfl) fw_X8_32 (Or.inl rfl) (Or.inl rfl) dX8_findBreak_56 h (fun σ5 h => ?_)
          refine GoC.iconst 1 dX8_findBreak_59 (by decide) ?_
          obtain ⟨w, hw, h⟩ := Option.bind_eq_some_iff.mp h
          cases h
          exact GoC.zret dX8_findBreak_60 rfl hw
set_option maxRecDepth 20000 in
theorem ksX8_findBreak {l : Launch} {G : Gt} {n0 u0 : Nat} {σ : Hp} {Z : Int32 × Hp} (x0 : Nat) (x1 : Int32) (h : kX8_findBreak σ x0 x1 = some Z) : GoC l G RX8 "findBreak" cX8_findBreak 3 (some .boolean) 3 70 n0 u0 (some (.int Z.1)) Z.2 0 [(0, G.rv x0), (1, .int x1)] [] σ := by
  unfold kX8_findBreak at h
  refine GC.aload_n 0 dX8_findBreak_0 rfl ?_
  refine GoC.iconst (-1) dX8_findBreak_1 (by decide) ?_
  refine GC.puti 8 2 rfl (by decide) (by decide) (rfl) fw_X8_32 (Or.inl rfl) (Or.inl rfl) dX8_findBreak_2 h (fun σ6 h => ?_)
  refine GC.aload_n 0 dX8_findBreak_5 rfl ?_
  refine GoC.iconst (-1) dX8_findBreak_6 (by decide) ?_
  refine GC.puti 8 3 rfl (by decide) (by decide) (rfl) fw_X8_36 (Or.inl rfl) (Or.inl rfl) dX8_findBreak_7 h (fun σ7 h => ?_)
  refine GC.aload_n 0 dX8_findBreak_10 rfl ?_
  refine GoC.iconst (-1) dX8_findBreak_11 (by decide) ?_
  refine GC.puti 8 4 rfl (by decide) (by decide) (rfl) fw_X8_39 (Or.inl rfl) (Or.inl rfl) dX8_findBreak_12 h (fun σ8 h => ?_)
  refine GoC.iload_n 1 dX8_findBreak_15 rfl ?_
  refine GoC.if_lt 24 dX8_findBreak_16 (by decide) h (fun h => ?_) (fun h => ?_)
  · refine GoC.iconst 0 dX8_findBreak_24 (by decide) ?_
    obtain ⟨w, hw, h⟩ := Option.bind_eq_some_iff.mp h
    cases h
    exact GoC.zret dX8_findBreak_25 rfl hw
  · refine GoC.iload_n 1 dX8_findBreak_19 rfl ?_
    refine GoC.iconst 3 dX8_findBreak_20 (by decide) ?_
    refine GoC.icmp_le 26 dX8_findBreak_21 (by decide) h (fun h => ?_) (fun h => ?_)
    · refine GoC.iconst 0 dX8_findBreak_26 (by decide) ?_
      refine GoC.istore_n [(0, G.rv x0), (1, .int x1), (2, .int 0)] dX8_findBreak_27 (by decide) rfl ?_
      exact ksX8_findBreak_28 _ _ _ _ _ h
    · refine GoC.iconst 0 dX8_findBreak_24 (by decide) ?_
      obtain ⟨w, hw, h⟩ := Option.bind_eq_some_iff.mp h
      cases h
      exact GoC.zret dX8_findBreak_25 rfl hw
set_option maxRecDepth 20000 in
theorem ktX8_findBreak {l : Launch} {G : Gt} {σ : Hp} (x0 : Nat) (x1 : Int32) : ∀ Z, kX8_findBreak σ x0 x1 = some Z → MtC l G yX8_findBreak cX8_findBreak 3 (some .boolean) 3 70 [G.rv x0, .int x1] σ (some (.int Z.1)) Z.2 := fun Z h => MtC.at (by decide +kernel) ⟨G.rv_cat _, rfl, trivial⟩ (Nat.le_of_ble_eq_true rfl) (ksX8_findBreak x0 x1 h)
/-! X8_isPair -/
def kX8_isPair (σ : Hp) (x0 : Nat) (x1 : Int32) (x2 : Int32) : Option (Int32) := if x2 ≤ x1 then zb 0 else (gfr σ 18 800 x0).bind (fun v1 => ckd σ v1 17 ((kX7_has σ v1 x1).bind (fun v2 => if v2 = 0 then zb 0 else (gfr σ 18 800 x0).bind (fun v3 => ckd σ v3 17 ((kX7_has σ v3 x2).bind (fun v4 => if v4 = 0 then zb 0 else zb 1))))))
set_option maxRecDepth 20000 in
theorem ksX8_isPair {l : Launch} {G : Gt} {n0 u0 : Nat} {σ : Hp} {Z : Int32} (x0 : Nat) (x1 : Int32) (x2 : Int32) (h : kX8_isPair σ x0 x1 x2 = some Z) : GoC l G RX8 "isPair" cX8_isPair 3 (some .boolean) 1 21 n0 u0 (some (.int Z)) σ 0 [(0, G.rv x0), (1, .int x1), (2, .int x2)] [] σ := by
  unfold kX8_isPair at h
  refine GoC.iload_n 1 dX8_isPair_0 rfl ?_
  refine GoC.iload_n 2 dX8_isPair_1 rfl ?_
  refine GoC.icmp_ge 31 dX8_isPair_2 (by decide) h (fun h => ?_) (fun h => ?_)
  · refine GoC.iconst 0 dX8_isPair_31 (by decide) ?_
    exact GoC.zret dX8_isPair_32 rfl h
  · refine GC.aload_n 0 dX8_isPair_5 rfl ?_
    refine GC.getr 8 0 rfl (by decide) (by decide) fw_X8_24 (Or.inl rfl) dX8_isPair_6 h (fun v1 h => ?_)
    refine GoC.iload_n 1 dX8_isPair_9 rfl ?_
    obtain ⟨h0, h⟩ := ckd_some h
    obtain ⟨v2, hq, h⟩ := Option.bind_eq_some_iff.mp h
    refine GC.callvI (rest := []) 7 rfl h0 rfl [.int x1] dX8_isPair_10 kk_X8_42 km_X7_has.1 km_X7_has.2 (ktX7_has _ _ _ hq) rfl rfl (Nat.le_of_ble_eq_true rfl) (Nat.le_of_ble_eq_true rfl) trivial (Nat.le_of_ble_eq_true rfl) ?_
    refine GoC.if_eq 31 dX8_isPair_13 (by decide) h (fun h => ?_) (fun h => ?_)
    · refine GoC.iconst 0 dX8_isPair_31 (by decide) ?_
      exact GoC.zret dX8_isPair_32 rfl h
    · refine GC.aload_n 0 dX8_isPair_16 rfl ?_
      refine GC.getr 8 0 rfl (by decide) (by decide) fw_X8_24 (Or.inl rfl) dX8_isPair_17 h (fun v3 h => ?_)
      refine GoC.iload_n 2 dX8_isPair_20 rfl ?_
      obtain ⟨h0, h⟩ := ckd_some h
      obtain ⟨v4, hq, h⟩ := Option.bind_eq_some_iff.mp h
      refine GC.callvI (rest := []) 7 rfl h0 rfl [.int x2] dX8_isPair_21 kk_X8_42 km_X7_has.1 km_X7_has.2 (ktX7_has _ _ _ hq) rfl rfl (Nat.le_of_ble_eq_true rfl) (Nat.le_of_ble_eq_true rfl) trivial (Nat.le_of_ble_eq_true rfl) ?_
      refine GoC.if_eq 31 dX8_isPair_24 (by decide) h (fun h => ?_) (fun h => ?_)
      · refine GoC.iconst 0 dX8_isPair_31 (by decide) ?_
        exact GoC.zret dX8_isPair_32 rfl h
      · refine GoC.iconst 1 dX8_isPair_27 (by decide) ?_
        refine GoC.goto 32 dX8_isPair_28 (by decide) ?_
        exact GoC.zret dX8_isPair_32 rfl h
set_option maxRecDepth 20000 in
theorem ktX8_isPair {l : Launch} {G : Gt} {σ : Hp} (x0 : Nat) (x1 : Int32) (x2 : Int32) : ∀ Z, kX8_isPair σ x0 x1 x2 = some Z → MtC l G yX8_isPair cX8_isPair 3 (some .boolean) 1 21 [G.rv x0, .int x1, .int x2] σ (some (.int Z)) σ := fun Z h => MtC.at (by decide +kernel) ⟨G.rv_cat _, rfl, rfl, trivial⟩ (Nat.le_of_ble_eq_true rfl) (ksX8_isPair x0 x1 x2 h)
/-! X8_extremePair -/
def kX8_extremePair_90 (σ : Hp) (k7 : Nat → Int32 → Int32 → Int32 → Int32 → Option (Int32)) (k20 : Nat → Int32 → Int32 → Int32 → Int32 → Int32 → Option (Int32)) (x0 : Nat) (x1 : Int32) (x2 : Int32) (x3 : Int32) (x4 : Int32) (x5 : Int32) : Option (Int32) := k20 x0 x1 x2 x3 x4 (x5 + 1)
def kX8_extremePair_78 (σ : Hp) (k7 : Nat → Int32 → Int32 → Int32 → Int32 → Option (Int32)) (k20 : Nat → Int32 → Int32 → Int32 → Int32 → Int32 → Option (Int32)) (x0 : Nat) (x1 : Int32) (x4 : Int32) (x5 : Int32) (x6 : Int32) : Option (Int32) := kX8_extremePair_90 σ k7 k20 x0 x1 ((x4 * 40) + x5) x6 x4 x5
def kX8_extremePair_20 (σ : Hp) (k7 : Nat → Int32 → Int32 → Int32 → Int32 → Option (Int32)) : Nat → Nat → Int32 → Int32 → Int32 → Int32 → Int32 → Option (Int32)
  | 0, _, _, _, _, _, _ => none
  | n + 1, x0, x1, x2, x3, x4, x5 => if 40 ≤ x5 then k7 x0 x1 x2 x3 (x4 + 1) else ckd σ x0 18 ((kX8_isPair σ x0 x4 x5).bind (fun v1 => if v1 = 0 then kX8_extremePair_90 σ k7 (kX8_extremePair_20 σ k7 n) x0 x1 x2 x3 x4 x5 else (gfr σ 18 801 x0).bind (fun v2 => ckd σ v2 11 ((kX1_of σ v2 x4 x5).bind (fun v3 => if x2 = (-1) then kX8_extremePair_78 σ k7 (kX8_extremePair_20 σ k7 n) x0 x1 x4 x5 v3 else if x1 = 0 then if x3 ≤ v3 then kX8_extremePair_90 σ k7 (kX8_extremePair_20 σ k7 n) x0 x1 x2 x3 x4 x5 else kX8_extremePair_78 σ k7 (kX8_extremePair_20 σ k7 n) x0 x1 x4 x5 v3 else if v3 ≤ x3 then kX8_extremePair_90 σ k7 (kX8_extremePair_20 σ k7 n) x0 x1 x2 x3 x4 x5 else kX8_extremePair_78 σ k7 (kX8_extremePair_20 σ k7 n) x0 x1 x4 x5 v3)))))
def kX8_extremePair_7 (σ : Hp)  : Nat → Nat → Int32 → Int32 → Int32 → Int32 → Option (Int32)
  | 0, _, _, _, _, _ => none
  | n + 1, x0, x1, x2, x3, x4 => if 40 ≤ x4 then some x2 else kX8_extremePair_20 σ (kX8_extremePair_7 σ n) FU x0 x1 x2 x3 x4 (x4 + 1)
def kX8_extremePair (σ : Hp) (x0 : Nat) (x1 : Int32) : Option (Int32) := kX8_extremePair_7 σ FU x0 x1 (-1) 0 0
set_option maxRecDepth 20000 in
theorem ksX8_extremePair_90 {l : Launch} {G : Gt} {n0 u0 : Nat} {σ : Hp} {Z : Int32} (k7 : Nat → Int32 → Int32 → Int32 → Int32 → Option (Int32)) (h7 : ∀ (x0 : Nat) (x1 : Int32) (x2 : Int32) (x3 : Int32) (x4 : Int32), k7 x0 x1 x2 x3 x4 = some Z → GoC l G RX8 "extremePair" cX8_extremePair 7 (some .int) 2 43 n0 u0 (some (.int Z)) σ 7 [(0, G.rv x0), (1, .int x1), (2, .int x2), (3, .int x3), (4, .int x4)] [] σ) (k20 : Nat → Int32 → Int32 → Int32 → Int32 → Int32 → Option (Int32)) (h20 : ∀ (x0 : Nat) (x1 : Int32) (x2 : Int32) (x3 : Int32) (x4 : Int32) (x5 : Int32), k20 x0 x1 x2 x3 x4 x5 = some Z → GoC l G RX8 "extremePair" cX8_extremePair 7 (some .int) 2 43 n0 u0 (some (.int Z)) σ 20 [(0, G.rv x0), (1, .int x1), (2, .int x2), (3, .int x3), (4, .int x4), (5, .int x5)] [] σ) (x0 : Nat) (x1 : Int32) (x2 : Int32) (x3 : Int32) (x4 : Int32) (x5 : Int32) (h : kX8_extremePair_90 σ k7 k20 x0 x1 x2 x3 x4 x5 = some Z) : GoC l G RX8 "extremePair" cX8_extremePair 7 (some .int) 2 43 n0 u0 (some (.int Z)) σ 90 [(0, G.rv x0), (1, .int x1), (2, .int x2), (3, .int x3), (4, .int x4), (5, .int x5)] [] σ := by
  unfold kX8_extremePair_90 at h
  refine GoC.iinc (w := 1) 5 [(0, G.rv x0), (1, .int x1), (2, .int x2), (3, .int x3), (4, .int x4), (5, .int (x5 + 1))] dX8_extremePair_90 rfl (by decide) (by decide) rfl ?_
  refine GoC.goto 20 dX8_extremePair_93 (by decide) ?_
  exact h20 _ _ _ _ _ _ h
set_option maxRecDepth 20000 in
theorem ksX8_extremePair_78 {l : Launch} {G : Gt} {n0 u0 : Nat} {σ : Hp} {Z : Int32} (k7 : Nat → Int32 → Int32 → Int32 → Int32 → Option (Int32)) (h7 : ∀ (x0 : Nat) (x1 : Int32) (x2 : Int32) (x3 : Int32) (x4 : Int32), k7 x0 x1 x2 x3 x4 = some Z → GoC l G RX8 "extremePair" cX8_extremePair 7 (some .int) 2 43 n0 u0 (some (.int Z)) σ 7 [(0, G.rv x0), (1, .int x1), (2, .int x2), (3, .int x3), (4, .int x4)] [] σ) (k20 : Nat → Int32 → Int32 → Int32 → Int32 → Int32 → Option (Int32)) (h20 : ∀ (x0 : Nat) (x1 : Int32) (x2 : Int32) (x3 : Int32) (x4 : Int32) (x5 : Int32), k20 x0 x1 x2 x3 x4 x5 = some Z → GoC l G RX8 "extremePair" cX8_extremePair 7 (some .int) 2 43 n0 u0 (some (.int Z)) σ 20 [(0, G.rv x0), (1, .int x1), (2, .int x2), (3, .int x3), (4, .int x4), (5, .int x5)] [] σ) (x0 : Nat) (x1 : Int32) (x4 : Int32) (x5 : Int32) (x6 : Int32) (h : kX8_extremePair_78 σ k7 k20 x0 x1 x4 x5 x6 = some Z) : GoC l G RX8 "extremePair" cX8_extremePair 7 (some .int) 2 43 n0 u0 (some (.int Z)) σ 78 [(0, G.rv x0), (1, .int x1), (4, .int x4), (5, .int x5), (6, .int x6)] [] σ := by
  unfold kX8_extremePair_78 at h
  refine GoC.iload 2 dX8_extremePair_78 rfl ?_
  refine GoC.bipush 40 dX8_extremePair_80 (by decide) ?_
  refine GoC.imul dX8_extremePair_82 ?_
  refine GoC.iload 3 dX8_extremePair_83 rfl ?_
  refine GoC.iadd dX8_extremePair_85 ?_
  refine GoC.istore_n [(0, G.rv x0), (1, .int x1), (2, .int ((x4 * 40) + x5)), (4, .int x4), (5, .int x5), (6, .int x6)] dX8_extremePair_86 (by decide) rfl ?_
  refine GoC.iload 5 dX8_extremePair_87 rfl ?_
  refine GoC.istore_n [(0, G.rv x0), (1, .int x1), (2, .int ((x4 * 40) + x5)), (3, .int x6), (4, .int x4), (5, .int x5), (6, .int x6)] dX8_extremePair_89 (by decide) rfl ?_
  refine GoC.sub [0, 1, 2, 3, 4, 5] rfl ?_
  exact ksX8_extremePair_90 _ h7 _ h20 _ _ _ _ _ _ h
set_option maxRecDepth 20000 in
theorem ksX8_extremePair_20 {l : Launch} {G : Gt} {n0 u0 : Nat} {σ : Hp} {Z : Int32} (k7 : Nat → Int32 → Int32 → Int32 → Int32 → Option (Int32)) (h7 : ∀ (x0 : Nat) (x1 : Int32) (x2 : Int32) (x3 : Int32) (x4 : Int32), k7 x0 x1 x2 x3 x4 = some Z → GoC l G RX8 "extremePair" cX8_extremePair 7 (some .int) 2 43 n0 u0 (some (.int Z)) σ 7 [(0, G.rv x0), (1, .int x1), (2, .int x2), (3, .int x3), (4, .int x4)] [] σ) (n : Nat) : ∀ (x0 : Nat) (x1 : Int32) (x2 : Int32) (x3 : Int32) (x4 : Int32) (x5 : Int32), kX8_extremePair_20 σ k7 n x0 x1 x2 x3 x4 x5 = some Z → GoC l G RX8 "extremePair" cX8_extremePair 7 (some .int) 2 43 n0 u0 (some (.int Z)) σ 20 [(0, G.rv x0), (1, .int x1), (2, .int x2), (3, .int x3), (4, .int x4), (5, .int x5)] [] σ := by
  induction n with
  | zero => intro x0 x1 x2 x3 x4 x5 h; rw [kX8_extremePair_20] at h; cases h
  | succ n ih =>
    intro x0 x1 x2 x3 x4 x5 h
    rw [kX8_extremePair_20] at h
    refine GoC.iload 5 dX8_extremePair_20 rfl ?_
    refine GoC.bipush 40 dX8_extremePair_22 (by decide) ?_
    refine GoC.icmp_ge 96 dX8_extremePair_24 (by decide) h (fun h => ?_) (fun h => ?_)
    · refine GoC.iinc (w := 1) 4 [(0, G.rv x0), (1, .int x1), (2, .int x2), (3, .int x3), (4, .int (x4 + 1)), (5, .int x5)] dX8_extremePair_96 rfl (by decide) (by decide) rfl ?_
      refine GoC.goto 7 dX8_extremePair_99 (by decide) ?_
      refine GoC.sub [0, 1, 2, 3, 4] rfl ?_
      exact h7 _ _ _ _ _ h
    · refine GC.aload_n 0 dX8_extremePair_27 rfl ?_
      refine GoC.iload 4 dX8_extremePair_28 rfl ?_
      refine GoC.iload 5 dX8_extremePair_30 rfl ?_
      obtain ⟨h0, h⟩ := ckd_some h
      obtain ⟨v1, hq, h⟩ := Option.bind_eq_some_iff.mp h
      refine GC.callvI (rest := []) 8 rfl h0 rfl [.int x4, .int x5] dX8_extremePair_32 kk_X8_62 km_X8_isPair.1 km_X8_isPair.2 (ktX8_isPair _ _ _ _ hq) rfl rfl (Nat.le_of_ble_eq_true rfl) (Nat.le_of_ble_eq_true rfl) trivial (Nat.le_of_ble_eq_true rfl) ?_
      refine GoC.if_ne 41 dX8_extremePair_35 (by decide) h (fun h => ?_) (fun h => ?_)
      · refine GC.aload_n 0 dX8_extremePair_41 rfl ?_
        refine GC.getr 8 1 rfl (by decide) (by decide) fw_X8_28 (Or.inl rfl) dX8_extremePair_42 h (fun v2 h => ?_)
        refine GoC.iload 4 dX8_extremePair_45 rfl ?_
        refine GoC.iload 5 dX8_extremePair_47 rfl ?_
        obtain ⟨h0, h⟩ := ckd_some h
        obtain ⟨v3, hq, h⟩ := Option.bind_eq_some_iff.mp h
        refine GC.callvI (rest := []) 1 rfl h0 rfl [.int x4, .int x5] dX8_extremePair_49 kk_X8_52 km_X1_of.1 km_X1_of.2 (ktX1_of _ _ _ _ hq) rfl rfl (Nat.le_of_ble_eq_true rfl) (Nat.le_of_ble_eq_true rfl) trivial (Nat.le_of_ble_eq_true rfl) ?_
        refine GoC.istore [(0, G.rv x0), (1, .int x1), (2, .int x2), (3, .int x3), (4, .int x4), (5, .int x5), (6, .int v3)] dX8_extremePair_52 (by decide) rfl ?_
        refine GoC.iload_n 2 dX8_extremePair_54 rfl ?_
        refine GoC.iconst (-1) dX8_extremePair_55 (by decide) ?_
        refine GoC.icmp_eq 78 dX8_extremePair_56 (by decide) h (fun h => ?_) (fun h => ?_)
        · refine GoC.sub [0, 1, 4, 5, 6] rfl ?_
          exact ksX8_extremePair_78 _ h7 _ ih _ _ _ _ _ h
        · refine GoC.iload_n 1 dX8_extremePair_59 rfl ?_
          refine GoC.if_eq 72 dX8_extremePair_60 (by decide) h (fun h => ?_) (fun h => ?_)
          · refine GoC.iload 6 dX8_extremePair_72 rfl ?_
            refine GoC.iload_n 3 dX8_extremePair_74 rfl ?_
            refine GoC.icmp_ge 90 dX8_extremePair_75 (by decide) h (fun h => ?_) (fun h => ?_)
            · refine GoC.sub [0, 1, 2, 3, 4, 5] rfl ?_
              exact ksX8_extremePair_90 _ h7 _ ih _ _ _ _ _ _ h
            · refine GoC.sub [0, 1, 4, 5, 6] rfl ?_
              exact ksX8_extremePair_78 _ h7 _ ih _ _ _ _ _ h
          · refine GoC.iload 6 dX8_extremePair_63 rfl ?_
            refine GoC.iload_n 3 dX8_extremePair_65 rfl ?_
            refine GoC.icmp_le 90 dX8_extremePair_66 (by decide) h (fun h => ?_) (fun h => ?_)
            · refine GoC.sub [0, 1, 2, 3, 4, 5] rfl ?_
              exact ksX8_extremePair_90 _ h7 _ ih _ _ _ _ _ _ h
            · refine GoC.goto 78 dX8_extremePair_69 (by decide) ?_
              refine GoC.sub [0, 1, 4, 5, 6] rfl ?_
              exact ksX8_extremePair_78 _ h7 _ ih _ _ _ _ _ h
      · refine GoC.goto 90 dX8_extremePair_38 (by decide) ?_
        exact ksX8_extremePair_90 _ h7 _ ih _ _ _ _ _ _ h
set_option maxRecDepth 20000 in
theorem ksX8_extremePair_7 {l : Launch} {G : Gt} {n0 u0 : Nat} {σ : Hp} {Z : Int32} (n : Nat) : ∀ (x0 : Nat) (x1 : Int32) (x2 : Int32) (x3 : Int32) (x4 : Int32), kX8_extremePair_7 σ n x0 x1 x2 x3 x4 = some Z → GoC l G RX8 "extremePair" cX8_extremePair 7 (some .int) 2 43 n0 u0 (some (.int Z)) σ 7 [(0, G.rv x0), (1, .int x1), (2, .int x2), (3, .int x3), (4, .int x4)] [] σ := by
  induction n with
  | zero => intro x0 x1 x2 x3 x4 h; rw [kX8_extremePair_7] at h; cases h
  | succ n ih =>
    intro x0 x1 x2 x3 x4 h
    rw [kX8_extremePair_7] at h
    refine GoC.iload 4 dX8_extremePair_7 rfl ?_
    refine GoC.bipush 40 dX8_extremePair_9 (by decide) ?_
    refine GoC.icmp_ge 102 dX8_extremePair_11 (by decide) h (fun h => ?_) (fun h => ?_)
    · refine GoC.iload_n 2 dX8_extremePair_102 rfl ?_
      cases h
      exact GoC.iret dX8_extremePair_103 rfl
    · refine GoC.iload 4 dX8_extremePair_14 rfl ?_
      refine GoC.iconst 1 dX8_extremePair_16 (by decide) ?_
      refine GoC.iadd dX8_extremePair_17 ?_
      refine GoC.istore [(0, G.rv x0), (1, .int x1), (2, .int x2), (3, .int x3), (4, .int x4), (5, .int (x4 + 1))] dX8_extremePair_18 (by decide) rfl ?_
      exact ksX8_extremePair_20 _ ih _ _ _ _ _ _ _ h
set_option maxRecDepth 20000 in
theorem ksX8_extremePair {l : Launch} {G : Gt} {n0 u0 : Nat} {σ : Hp} {Z : Int32} (x0 : Nat) (x1 : Int32) (h : kX8_extremePair σ x0 x1 = some Z) : GoC l G RX8 "extremePair" cX8_extremePair 7 (some .int) 2 43 n0 u0 (some (.int Z)) σ 0 [(0, G.rv x0), (1, .int x1)] [] σ := by
  unfold kX8_extremePair at h
  refine GoC.iconst (-1) dX8_extremePair_0 (by decide) ?_
  refine GoC.istore_n [(0, G.rv x0), (1, .int x1), (2, .int (-1))] dX8_extremePair_1 (by decide) rfl ?_
  refine GoC.iconst 0 dX8_extremePair_2 (by decide) ?_
  refine GoC.istore_n [(0, G.rv x0), (1, .int x1), (2, .int (-1)), (3, .int 0)] dX8_extremePair_3 (by decide) rfl ?_
  refine GoC.iconst 0 dX8_extremePair_4 (by decide) ?_
  refine GoC.istore [(0, G.rv x0), (1, .int x1), (2, .int (-1)), (3, .int 0), (4, .int 0)] dX8_extremePair_5 (by decide) rfl ?_
  exact ksX8_extremePair_7 _ _ _ _ _ _ h
set_option maxRecDepth 20000 in
theorem ktX8_extremePair {l : Launch} {G : Gt} {σ : Hp} (x0 : Nat) (x1 : Int32) : ∀ Z, kX8_extremePair σ x0 x1 = some Z → MtC l G yX8_extremePair cX8_extremePair 7 (some .int) 2 43 [G.rv x0, .int x1] σ (some (.int Z)) σ := fun Z h => MtC.at (by decide +kernel) ⟨G.rv_cat _, rfl, trivial⟩ (Nat.le_of_ble_eq_true rfl) (ksX8_extremePair x0 x1 h)
/-! X8_countPairs -/
def kX8_countPairs_69 (σ : Hp) (k5 : Nat → Int32 → Int32 → Int32 → Int32 → Option (Int32)) (k18 : Nat → Int32 → Int32 → Int32 → Int32 → Int32 → Option (Int32)) (x0 : Nat) (x1 : Int32) (x2 : Int32) (x3 : Int32) (x4 : Int32) (x5 : Int32) : Option (Int32) := k18 x0 x1 x2 x3 x4 (x5 + 1)
def kX8_countPairs_18 (σ : Hp) (k5 : Nat → Int32 → Int32 → Int32 → Int32 → Option (Int32)) : Nat → Nat → Int32 → Int32 → Int32 → Int32 → Int32 → Option (Int32)
  | 0, _, _, _, _, _, _ => none
  | n + 1, x0, x1, x2, x3, x4, x5 => if 40 ≤ x5 then k5 x0 x1 x2 x3 (x4 + 1) else ckd σ x0 18 ((kX8_isPair σ x0 x4 x5).bind (fun v1 => if v1 = 0 then kX8_countPairs_69 σ k5 (kX8_countPairs_18 σ k5 n) x0 x1 x2 x3 x4 x5 else (gfr σ 18 801 x0).bind (fun v2 => ckd σ v2 11 ((kX1_of σ v2 x4 x5).bind (fun v3 => if v3 < x1 then kX8_countPairs_69 σ k5 (kX8_countPairs_18 σ k5 n) x0 x1 x2 x3 x4 x5 else (gfr σ 18 801 x0).bind (fun v4 => ckd σ v4 11 ((kX1_of σ v4 x4 x5).bind (fun v5 => if x2 < v5 then kX8_countPairs_69 σ k5 (kX8_countPairs_18 σ k5 n) x0 x1 x2 x3 x4 x5 else kX8_countPairs_69 σ k5 (kX8_countPairs_18 σ k5 n) x0 x1 x2 (x3 + 1) x4 x5))))))))
def kX8_countPairs_5 (σ : Hp)  : Nat → Nat → Int32 → Int32 → Int32 → Int32 → Option (Int32)
  | 0, _, _, _, _, _ => none
  | n + 1, x0, x1, x2, x3, x4 => if 40 ≤ x4 then some x3 else kX8_countPairs_18 σ (kX8_countPairs_5 σ n) FU x0 x1 x2 x3 x4 (x4 + 1)
def kX8_countPairs (σ : Hp) (x0 : Nat) (x1 : Int32) (x2 : Int32) : Option (Int32) := kX8_countPairs_5 σ FU x0 x1 x2 0 0
set_option maxRecDepth 20000 in
theorem ksX8_countPairs_69 {l : Launch} {G : Gt} {n0 u0 : Nat} {σ : Hp} {Z : Int32} (k5 : Nat → Int32 → Int32 → Int32 → Int32 → Option (Int32)) (h5 : ∀ (x0 : Nat) (x1 : Int32) (x2 : Int32) (x3 : Int32) (x4 : Int32), k5 x0 x1 x2 x3 x4 = some Z → GoC l G RX8 "countPairs" cX8_countPairs 6 (some .int) 2 43 n0 u0 (some (.int Z)) σ 5 [(0, G.rv x0), (1, .int x1), (2, .int x2), (3, .int x3), (4, .int x4)] [] σ) (k18 : Nat → Int32 → Int32 → Int32 → Int32 → Int32 → Option (Int32)) (h18 : ∀ (x0 : Nat) (x1 : Int32) (x2 : Int32) (x3 : Int32) (x4 : Int32) (x5 : Int32), k18 x0 x1 x2 x3 x4 x5 = some Z → GoC l G RX8 "countPairs" cX8_countPairs 6 (some .int) 2 43 n0 u0 (some (.int Z)) σ 18 [(0, G.rv x0), (1, .int x1), (2, .int x2), (3, .int x3), (4, .int x4), (5, .int x5)] [] σ) (x0 : Nat) (x1 : Int32) (x2 : Int32) (x3 : Int32) (x4 : Int32) (x5 : Int32) (h : kX8_countPairs_69 σ k5 k18 x0 x1 x2 x3 x4 x5 = some Z) : GoC l G RX8 "countPairs" cX8_countPairs 6 (some .int) 2 43 n0 u0 (some (.int Z)) σ 69 [(0, G.rv x0), (1, .int x1), (2, .int x2), (3, .int x3), (4, .int x4), (5, .int x5)] [] σ := by
  unfold kX8_countPairs_69 at h
  refine GoC.iinc (w := 1) 5 [(0, G.rv x0), (1, .int x1), (2, .int x2), (3, .int x3), (4, .int x4), (5, .int (x5 + 1))] dX8_countPairs_69 rfl (by decide) (by decide) rfl ?_
  refine GoC.goto 18 dX8_countPairs_72 (by decide) ?_
  exact h18 _ _ _ _ _ _ h
set_option maxRecDepth 20000 in
theorem ksX8_countPairs_18 {l : Launch} {G : Gt} {n0 u0 : Nat} {σ : Hp} {Z : Int32} (k5 : Nat → Int32 → Int32 → Int32 → Int32 → Option (Int32)) (h5 : ∀ (x0 : Nat) (x1 : Int32) (x2 : Int32) (x3 : Int32) (x4 : Int32), k5 x0 x1 x2 x3 x4 = some Z → GoC l G RX8 "countPairs" cX8_countPairs 6 (some .int) 2 43 n0 u0 (some (.int Z)) σ 5 [(0, G.rv x0), (1, .int x1), (2, .int x2), (3, .int x3), (4, .int x4)] [] σ) (n : Nat) : ∀ (x0 : Nat) (x1 : Int32) (x2 : Int32) (x3 : Int32) (x4 : Int32) (x5 : Int32), kX8_countPairs_18 σ k5 n x0 x1 x2 x3 x4 x5 = some Z → GoC l G RX8 "countPairs" cX8_countPairs 6 (some .int) 2 43 n0 u0 (some (.int Z)) σ 18 [(0, G.rv x0), (1, .int x1), (2, .int x2), (3, .int x3), (4, .int x4), (5, .int x5)] [] σ := by
  induction n with
  | zero => intro x0 x1 x2 x3 x4 x5 h; rw [kX8_countPairs_18] at h; cases h
  | succ n ih =>
    intro x0 x1 x2 x3 x4 x5 h
    rw [kX8_countPairs_18] at h
    refine GoC.iload 5 dX8_countPairs_18 rfl ?_
    refine GoC.bipush 40 dX8_countPairs_20 (by decide) ?_
    refine GoC.icmp_ge 75 dX8_countPairs_22 (by decide) h (fun h => ?_) (fun h => ?_)
    · refine GoC.iinc (w := 1) 4 [(0, G.rv x0), (1, .int x1), (2, .int x2), (3, .int x3), (4, .int (x4 + 1)), (5, .int x5)] dX8_countPairs_75 rfl (by decide) (by decide) rfl ?_
      refine GoC.goto 5 dX8_countPairs_78 (by decide) ?_
      refine GoC.sub [0, 1, 2, 3, 4] rfl ?_
      exact h5 _ _ _ _ _ h
    · refine GC.aload_n 0 dX8_countPairs_25 rfl ?_
      refine GoC.iload 4 dX8_countPairs_26 rfl ?_
      refine GoC.iload 5 dX8_countPairs_28 rfl ?_
      obtain ⟨h0, h⟩ := ckd_some h
      obtain ⟨v1, hq, h⟩ := Option.bind_eq_some_iff.mp h
      refine GC.callvI (rest := []) 8 rfl h0 rfl [.int x4, .int x5] dX8_countPairs_30 kk_X8_62 km_X8_isPair.1 km_X8_isPair.2 (ktX8_isPair _ _ _ _ hq) rfl rfl (Nat.le_of_ble_eq_true rfl) (Nat.le_of_ble_eq_true rfl) trivial (Nat.le_of_ble_eq_true rfl) ?_
      refine GoC.if_eq 69 dX8_countPairs_33 (by decide) h (fun h => ?_) (fun h => ?_)
      · exact ksX8_countPairs_69 _ h5 _ ih _ _ _ _ _ _ h
      · refine GC.aload_n 0 dX8_countPairs_36 rfl ?_
        refine GC.getr 8 1 rfl (by decide) (by decide) fw_X8_28 (Or.inl rfl) dX8_countPairs_37 h (fun v2 h => ?_)
        refine GoC.iload 4 dX8_countPairs_40 rfl ?_
        refine GoC.iload 5 dX8_countPairs_42 rfl ?_
        obtain ⟨h0, h⟩ := ckd_some h
        obtain ⟨v3, hq, h⟩ := Option.bind_eq_some_iff.mp h
        refine GC.callvI (rest := []) 1 rfl h0 rfl [.int x4, .int x5] dX8_countPairs_44 kk_X8_52 km_X1_of.1 km_X1_of.2 (ktX1_of _ _ _ _ hq) rfl rfl (Nat.le_of_ble_eq_true rfl) (Nat.le_of_ble_eq_true rfl) trivial (Nat.le_of_ble_eq_true rfl) ?_
        refine GoC.iload_n 1 dX8_countPairs_47 rfl ?_
        refine GoC.icmp_lt 69 dX8_countPairs_48 (by decide) h (fun h => ?_) (fun h => ?_)
        · exact ksX8_countPairs_69 _ h5 _ ih _ _ _ _ _ _ h
        · refine GC.aload_n 0 dX8_countPairs_51 rfl ?_
          refine GC.getr 8 1 rfl (by decide) (by decide) fw_X8_28 (Or.inl rfl) dX8_countPairs_52 h (fun v4 h => ?_)
          refine GoC.iload 4 dX8_countPairs_55 rfl ?_
          refine GoC.iload 5 dX8_countPairs_57 rfl ?_
          obtain ⟨h0, h⟩ := ckd_some h
          obtain ⟨v5, hq, h⟩ := Option.bind_eq_some_iff.mp h
          refine GC.callvI (rest := []) 1 rfl h0 rfl [.int x4, .int x5] dX8_countPairs_59 kk_X8_52 km_X1_of.1 km_X1_of.2 (ktX1_of _ _ _ _ hq) rfl rfl (Nat.le_of_ble_eq_true rfl) (Nat.le_of_ble_eq_true rfl) trivial (Nat.le_of_ble_eq_true rfl) ?_
          refine GoC.iload_n 2 dX8_countPairs_62 rfl ?_
          refine GoC.icmp_gt 69 dX8_countPairs_63 (by decide) h (fun h => ?_) (fun h => ?_)
          · exact ksX8_countPairs_69 _ h5 _ ih _ _ _ _ _ _ h
          · refine GoC.iinc (w := 1) 3 [(0, G.rv x0), (1, .int x1), (2, .int x2), (3, .int (x3 + 1)), (4, .int x4), (5, .int x5)] dX8_countPairs_66 rfl (by decide) (by decide) rfl ?_
            exact ksX8_countPairs_69 _ h5 _ ih _ _ _ _ _ _ h
set_option maxRecDepth 20000 in
theorem ksX8_countPairs_5 {l : Launch} {G : Gt} {n0 u0 : Nat} {σ : Hp} {Z : Int32} (n : Nat) : ∀ (x0 : Nat) (x1 : Int32) (x2 : Int32) (x3 : Int32) (x4 : Int32), kX8_countPairs_5 σ n x0 x1 x2 x3 x4 = some Z → GoC l G RX8 "countPairs" cX8_countPairs 6 (some .int) 2 43 n0 u0 (some (.int Z)) σ 5 [(0, G.rv x0), (1, .int x1), (2, .int x2), (3, .int x3), (4, .int x4)] [] σ := by
  induction n with
  | zero => intro x0 x1 x2 x3 x4 h; rw [kX8_countPairs_5] at h; cases h
  | succ n ih =>
    intro x0 x1 x2 x3 x4 h
    rw [kX8_countPairs_5] at h
    refine GoC.iload 4 dX8_countPairs_5 rfl ?_
    refine GoC.bipush 40 dX8_countPairs_7 (by decide) ?_
    refine GoC.icmp_ge 81 dX8_countPairs_9 (by decide) h (fun h => ?_) (fun h => ?_)
    · refine GoC.iload_n 3 dX8_countPairs_81 rfl ?_
      cases h
      exact GoC.iret dX8_countPairs_82 rfl
    · refine GoC.iload 4 dX8_countPairs_12 rfl ?_
      refine GoC.iconst 1 dX8_countPairs_14 (by decide) ?_
      refine GoC.iadd dX8_countPairs_15 ?_
      refine GoC.istore [(0, G.rv x0), (1, .int x1), (2, .int x2), (3, .int x3), (4, .int x4), (5, .int (x4 + 1))] dX8_countPairs_16 (by decide) rfl ?_
      exact ksX8_countPairs_18 _ ih _ _ _ _ _ _ _ h
set_option maxRecDepth 20000 in
theorem ksX8_countPairs {l : Launch} {G : Gt} {n0 u0 : Nat} {σ : Hp} {Z : Int32} (x0 : Nat) (x1 : Int32) (x2 : Int32) (h : kX8_countPairs σ x0 x1 x2 = some Z) : GoC l G RX8 "countPairs" cX8_countPairs 6 (some .int) 2 43 n0 u0 (some (.int Z)) σ 0 [(0, G.rv x0), (1, .int x1), (2, .int x2)] [] σ := by
  unfold kX8_countPairs at h
  refine GoC.iconst 0 dX8_countPairs_0 (by decide) ?_
  refine GoC.istore_n [(0, G.rv x0), (1, .int x1), (2, .int x2), (3, .int 0)] dX8_countPairs_1 (by decide) rfl ?_
  refine GoC.iconst 0 dX8_countPairs_2 (by decide) ?_
  refine GoC.istore [(0, G.rv x0), (1, .int x1), (2, .int x2), (3, .int 0), (4, .int 0)] dX8_countPairs_3 (by decide) rfl ?_
  exact ksX8_countPairs_5 _ _ _ _ _ _ h
set_option maxRecDepth 20000 in
theorem ktX8_countPairs {l : Launch} {G : Gt} {σ : Hp} (x0 : Nat) (x1 : Int32) (x2 : Int32) : ∀ Z, kX8_countPairs σ x0 x1 x2 = some Z → MtC l G yX8_countPairs cX8_countPairs 6 (some .int) 2 43 [G.rv x0, .int x1, .int x2] σ (some (.int Z)) σ := fun Z h => MtC.at (by decide +kernel) ⟨G.rv_cat _, rfl, rfl, trivial⟩ (Nat.le_of_ble_eq_true rfl) (ksX8_countPairs x0 x1 x2 h)
/-! X8_coupleAt -/
def kX8_coupleAt_71 (σ : Hp) (k5 : Nat → Int32 → Int32 → Int32 → Int32 → Option (Int32)) (k18 : Nat → Int32 → Int32 → Int32 → Int32 → Int32 → Option (Int32)) (x0 : Nat) (x1 : Int32) (x2 : Int32) (x3 : Int32) (x4 : Int32) (x5 : Int32) : Option (Int32) := k18 x0 x1 x2 x3 x4 (x5 + 1)
def kX8_coupleAt_18 (σ : Hp) (k5 : Nat → Int32 → Int32 → Int32 → Int32 → Option (Int32)) : Nat → Nat → Int32 → Int32 → Int32 → Int32 → Int32 → Option (Int32)
  | 0, _, _, _, _, _, _ => none
  | n + 1, x0, x1, x2, x3, x4, x5 => if 40 ≤ x5 then k5 x0 x1 x2 x3 (x4 + 1) else ckd σ x0 18 ((kX8_isPair σ x0 x4 x5).bind (fun v1 => if v1 = 0 then kX8_coupleAt_71 σ k5 (kX8_coupleAt_18 σ k5 n) x0 x1 x2 x3 x4 x5 else (gfr σ 18 801 x0).bind (fun v2 => ckd σ v2 11 ((kX1_of σ v2 x4 x5).bind (fun v3 => if v3 ≤ x1 then if x3 = x2 then some ((x4 * 40) + x5) else kX8_coupleAt_71 σ k5 (kX8_coupleAt_18 σ k5 n) x0 x1 x2 (x3 + 1) x4 x5 else kX8_coupleAt_71 σ k5 (kX8_coupleAt_18 σ k5 n) x0 x1 x2 x3 x4 x5)))))
def kX8_coupleAt_5 (σ : Hp)  : Nat → Nat → Int32 → Int32 → Int32 → Int32 → Option (Int32)
  | 0, _, _, _, _, _ => none
  | n + 1, x0, x1, x2, x3, x4 => if 40 ≤ x4 then some (-1) else kX8_coupleAt_18 σ (kX8_coupleAt_5 σ n) FU x0 x1 x2 x3 x4 (x4 + 1)
def kX8_coupleAt (σ : Hp) (x0 : Nat) (x1 : Int32) (x2 : Int32) : Option (Int32) := kX8_coupleAt_5 σ FU x0 x1 x2 0 0
set_option maxRecDepth 20000 in
theorem ksX8_coupleAt_71 {l : Launch} {G : Gt} {n0 u0 : Nat} {σ : Hp} {Z : Int32} (k5 : Nat → Int32 → Int32 → Int32 → Int32 → Option (Int32)) (h5 : ∀ (x0 : Nat) (x1 : Int32) (x2 : Int32) (x3 : Int32) (x4 : Int32), k5 x0 x1 x2 x3 x4 = some Z → GoC l G RX8 "coupleAt" cX8_coupleAt 6 (some .int) 2 43 n0 u0 (some (.int Z)) σ 5 [(0, G.rv x0), (1, .int x1), (2, .int x2), (3, .int x3), (4, .int x4)] [] σ) (k18 : Nat → Int32 → Int32 → Int32 → Int32 → Int32 → Option (Int32)) (h18 : ∀ (x0 : Nat) (x1 : Int32) (x2 : Int32) (x3 : Int32) (x4 : Int32) (x5 : Int32), k18 x0 x1 x2 x3 x4 x5 = some Z → GoC l G RX8 "coupleAt" cX8_coupleAt 6 (some .int) 2 43 n0 u0 (some (.int Z)) σ 18 [(0, G.rv x0), (1, .int x1), (2, .int x2), (3, .int x3), (4, .int x4), (5, .int x5)] [] σ) (x0 : Nat) (x1 : Int32) (x2 : Int32) (x3 : Int32) (x4 : Int32) (x5 : Int32) (h : kX8_coupleAt_71 σ k5 k18 x0 x1 x2 x3 x4 x5 = some Z) : GoC l G RX8 "coupleAt" cX8_coupleAt 6 (some .int) 2 43 n0 u0 (some (.int Z)) σ 71 [(0, G.rv x0), (1, .int x1), (2, .int x2), (3, .int x3), (4, .int x4), (5, .int x5)] [] σ := by
  unfold kX8_coupleAt_71 at h
  refine GoC.iinc (w := 1) 5 [(0, G.rv x0), (1, .int x1), (2, .int x2), (3, .int x3), (4, .int x4), (5, .int (x5 + 1))] dX8_coupleAt_71 rfl (by decide) (by decide) rfl ?_
  refine GoC.goto 18 dX8_coupleAt_74 (by decide) ?_
  exact h18 _ _ _ _ _ _ h
set_option maxRecDepth 20000 in
theorem ksX8_coupleAt_18 {l : Launch} {G : Gt} {n0 u0 : Nat} {σ : Hp} {Z : Int32} (k5 : Nat → Int32 → Int32 → Int32 → Int32 → Option (Int32)) (h5 : ∀ (x0 : Nat) (x1 : Int32) (x2 : Int32) (x3 : Int32) (x4 : Int32), k5 x0 x1 x2 x3 x4 = some Z → GoC l G RX8 "coupleAt" cX8_coupleAt 6 (some .int) 2 43 n0 u0 (some (.int Z)) σ 5 [(0, G.rv x0), (1, .int x1), (2, .int x2), (3, .int x3), (4, .int x4)] [] σ) (n : Nat) : ∀ (x0 : Nat) (x1 : Int32) (x2 : Int32) (x3 : Int32) (x4 : Int32) (x5 : Int32), kX8_coupleAt_18 σ k5 n x0 x1 x2 x3 x4 x5 = some Z → GoC l G RX8 "coupleAt" cX8_coupleAt 6 (some .int) 2 43 n0 u0 (some (.int Z)) σ 18 [(0, G.rv x0), (1, .int x1), (2, .int x2), (3, .int x3), (4, .int x4), (5, .int x5)] [] σ := by
  induction n with
  | zero => intro x0 x1 x2 x3 x4 x5 h; rw [kX8_coupleAt_18] at h; cases h
  | succ n ih =>
    intro x0 x1 x2 x3 x4 x5 h
    rw [kX8_coupleAt_18] at h
    refine GoC.iload 5 dX8_coupleAt_18 rfl ?_
    refine GoC.bipush 40 dX8_coupleAt_20 (by decide) ?_
    refine GoC.icmp_ge 77 dX8_coupleAt_22 (by decide) h (fun h => ?_) (fun h => ?_)
    · refine GoC.iinc (w := 1) 4 [(0, G.rv x0), (1, .int x1), (2, .int x2), (3, .int x3), (4, .int (x4 + 1)), (5, .int x5)] dX8_coupleAt_77 rfl (by decide) (by decide) rfl ?_
      refine GoC.goto 5 dX8_coupleAt_80 (by decide) ?_
      refine GoC.sub [0, 1, 2, 3, 4] rfl ?_
      exact h5 _ _ _ _ _ h
    · refine GC.aload_n 0 dX8_coupleAt_25 rfl ?_
      refine GoC.iload 4 dX8_coupleAt_26 rfl ?_
      refine GoC.iload 5 dX8_coupleAt_28 rfl ?_
      obtain ⟨h0, h⟩ := ckd_some h
      obtain ⟨v1, hq, h⟩ := Option.bind_eq_some_iff.mp h
      refine GC.callvI (rest := []) 8 rfl h0 rfl [.int x4, .int x5] dX8_coupleAt_30 kk_X8_62 km_X8_isPair.1 km_X8_isPair.2 (ktX8_isPair _ _ _ _ hq) rfl rfl (Nat.le_of_ble_eq_true rfl) (Nat.le_of_ble_eq_true rfl) trivial (Nat.le_of_ble_eq_true rfl) ?_
      refine GoC.if_eq 71 dX8_coupleAt_33 (by decide) h (fun h => ?_) (fun h => ?_)
      · exact ksX8_coupleAt_71 _ h5 _ ih _ _ _ _ _ _ h
      · refine GC.aload_n 0 dX8_coupleAt_36 rfl ?_
        refine GC.getr 8 1 rfl (by decide) (by decide) fw_X8_28 (Or.inl rfl) dX8_coupleAt_37 h (fun v2 h => ?_)
        refine GoC.iload 4 dX8_coupleAt_40 rfl ?_
        refine GoC.iload 5 dX8_coupleAt_42 rfl ?_
        obtain ⟨h0, h⟩ := ckd_some h
        obtain ⟨v3, hq, h⟩ := Option.bind_eq_some_iff.mp h
        refine GC.callvI (rest := []) 1 rfl h0 rfl [.int x4, .int x5] dX8_coupleAt_44 kk_X8_52 km_X1_of.1 km_X1_of.2 (ktX1_of _ _ _ _ hq) rfl rfl (Nat.le_of_ble_eq_true rfl) (Nat.le_of_ble_eq_true rfl) trivial (Nat.le_of_ble_eq_true rfl) ?_
        refine GoC.iload_n 1 dX8_coupleAt_47 rfl ?_
        refine GoC.icmp_le 54 dX8_coupleAt_48 (by decide) h (fun h => ?_) (fun h => ?_)
        · refine GoC.iload_n 3 dX8_coupleAt_54 rfl ?_
          refine GoC.iload_n 2 dX8_coupleAt_55 rfl ?_
          refine GoC.icmp_ne 68 dX8_coupleAt_56 (by decide) h (fun h => ?_) (fun h => ?_)
          · refine GoC.iinc (w := 1) 3 [(0, G.rv x0), (1, .int x1), (2, .int x2), (3, .int (x3 + 1)), (4, .int x4), (5, .int x5)] dX8_coupleAt_68 rfl (by decide) (by decide) rfl ?_
            exact ksX8_coupleAt_71 _ h5 _ ih _ _ _ _ _ _ h
          · refine GoC.iload 4 dX8_coupleAt_59 rfl ?_
            refine GoC.bipush 40 dX8_coupleAt_61 (by decide) ?_
            refine GoC.imul dX8_coupleAt_63 ?_
            refine GoC.iload 5 dX8_coupleAt_64 rfl ?_
            refine GoC.iadd dX8_coupleAt_66 ?_
            cases h
            exact GoC.iret dX8_coupleAt_67 rfl
        · refine GoC.goto 71 dX8_coupleAt_51 (by decide) ?_
          exact ksX8_coupleAt_71 _ h5 _ ih _ _ _ _ _ _ h
set_option maxRecDepth 20000 in
theorem ksX8_coupleAt_5 {l : Launch} {G : Gt} {n0 u0 : Nat} {σ : Hp} {Z : Int32} (n : Nat) : ∀ (x0 : Nat) (x1 : Int32) (x2 : Int32) (x3 : Int32) (x4 : Int32), kX8_coupleAt_5 σ n x0 x1 x2 x3 x4 = some Z → GoC l G RX8 "coupleAt" cX8_coupleAt 6 (some .int) 2 43 n0 u0 (some (.int Z)) σ 5 [(0, G.rv x0), (1, .int x1), (2, .int x2), (3, .int x3), (4, .int x4)] [] σ := by
  induction n with
  | zero => intro x0 x1 x2 x3 x4 h; rw [kX8_coupleAt_5] at h; cases h
  | succ n ih =>
    intro x0 x1 x2 x3 x4 h
    rw [kX8_coupleAt_5] at h
    refine GoC.iload 4 dX8_coupleAt_5 rfl ?_
    refine GoC.bipush 40 dX8_coupleAt_7 (by decide) ?_
    refine GoC.icmp_ge 83 dX8_coupleAt_9 (by decide) h (fun h => ?_) (fun h => ?_)
    · refine GoC.iconst (-1) dX8_coupleAt_83 (by decide) ?_
      cases h
      exact GoC.iret dX8_coupleAt_84 rfl
    · refine GoC.iload 4 dX8_coupleAt_12 rfl ?_
      refine GoC.iconst 1 dX8_coupleAt_14 (by decide) ?_
      refine GoC.iadd dX8_coupleAt_15 ?_
      refine GoC.istore [(0, G.rv x0), (1, .int x1), (2, .int x2), (3, .int x3), (4, .int x4), (5, .int (x4 + 1))] dX8_coupleAt_16 (by decide) rfl ?_
      exact ksX8_coupleAt_18 _ ih _ _ _ _ _ _ _ h
set_option maxRecDepth 20000 in
theorem ksX8_coupleAt {l : Launch} {G : Gt} {n0 u0 : Nat} {σ : Hp} {Z : Int32} (x0 : Nat) (x1 : Int32) (x2 : Int32) (h : kX8_coupleAt σ x0 x1 x2 = some Z) : GoC l G RX8 "coupleAt" cX8_coupleAt 6 (some .int) 2 43 n0 u0 (some (.int Z)) σ 0 [(0, G.rv x0), (1, .int x1), (2, .int x2)] [] σ := by
  unfold kX8_coupleAt at h
  refine GoC.iconst 0 dX8_coupleAt_0 (by decide) ?_
  refine GoC.istore_n [(0, G.rv x0), (1, .int x1), (2, .int x2), (3, .int 0)] dX8_coupleAt_1 (by decide) rfl ?_
  refine GoC.iconst 0 dX8_coupleAt_2 (by decide) ?_
  refine GoC.istore [(0, G.rv x0), (1, .int x1), (2, .int x2), (3, .int 0), (4, .int 0)] dX8_coupleAt_3 (by decide) rfl ?_
  exact ksX8_coupleAt_5 _ _ _ _ _ _ h
set_option maxRecDepth 20000 in
theorem ktX8_coupleAt {l : Launch} {G : Gt} {σ : Hp} (x0 : Nat) (x1 : Int32) (x2 : Int32) : ∀ Z, kX8_coupleAt σ x0 x1 x2 = some Z → MtC l G yX8_coupleAt cX8_coupleAt 6 (some .int) 2 43 [G.rv x0, .int x1, .int x2] σ (some (.int Z)) σ := fun Z h => MtC.at (by decide +kernel) ⟨G.rv_cat _, rfl, rfl, trivial⟩ (Nat.le_of_ble_eq_true rfl) (ksX8_coupleAt x0 x1 x2 h)
/-! X8_sumOfPairs -/
def kX8_sumOfPairs_43 (σ : Hp) (k4 : Nat → Int32 → Int32 → Option (Int32)) (k14 : Nat → Int32 → Int32 → Int32 → Option (Int32)) (x0 : Nat) (x2 : Int32) (x3 : Int32) (y0 : Int32) (y1 : Int32) : Option (Int32) := k14 x0 (y0 + y1) x2 (x3 + 1)
def kX8_sumOfPairs_14 (σ : Hp) (k4 : Nat → Int32 → Int32 → Option (Int32)) : Nat → Nat → Int32 → Int32 → Int32 → Option (Int32)
  | 0, _, _, _, _ => none
  | n + 1, x0, x1, x2, x3 => if 40 ≤ x3 then k4 x0 x1 (x2 + 1) else ckd σ x0 18 ((kX8_isPair σ x0 x2 x3).bind (fun v1 => if v1 = 0 then kX8_sumOfPairs_43 σ k4 (kX8_sumOfPairs_14 σ k4 n) x0 x2 x3 x1 0 else (gfr σ 18 801 x0).bind (fun v2 => ckd σ v2 11 ((kX1_of σ v2 x2 x3).bind (fun v3 => kX8_sumOfPairs_43 σ k4 (kX8_sumOfPairs_14 σ k4 n) x0 x2 x3 x1 v3)))))
def kX8_sumOfPairs_4 (σ : Hp)  : Nat → Nat → Int32 → Int32 → Option (Int32)
  | 0, _, _, _ => none
  | n + 1, x0, x1, x2 => if 40 ≤ x2 then some x1 else kX8_sumOfPairs_14 σ (kX8_sumOfPairs_4 σ n) FU x0 x1 x2 (x2 + 1)
def kX8_sumOfPairs (σ : Hp) (x0 : Nat) : Option (Int32) := kX8_sumOfPairs_4 σ FU x0 0 0
set_option maxRecDepth 20000 in
theorem ksX8_sumOfPairs_43 {l : Launch} {G : Gt} {n0 u0 : Nat} {σ : Hp} {Z : Int32} (k4 : Nat → Int32 → Int32 → Option (Int32)) (h4 : ∀ (x0 : Nat) (x1 : Int32) (x2 : Int32), k4 x0 x1 x2 = some Z → GoC l G RX8 "sumOfPairs" cX8_sumOfPairs 4 (some .int) 2 43 n0 u0 (some (.int Z)) σ 4 [(0, G.rv x0), (1, .int x1), (2, .int x2)] [] σ) (k14 : Nat → Int32 → Int32 → Int32 → Option (Int32)) (h14 : ∀ (x0 : Nat) (x1 : Int32) (x2 : Int32) (x3 : Int32), k14 x0 x1 x2 x3 = some Z → GoC l G RX8 "sumOfPairs" cX8_sumOfPairs 4 (some .int) 2 43 n0 u0 (some (.int Z)) σ 14 [(0, G.rv x0), (1, .int x1), (2, .int x2), (3, .int x3)] [] σ) (x0 : Nat) (x2 : Int32) (x3 : Int32) (y0 : Int32) (y1 : Int32) (h : kX8_sumOfPairs_43 σ k4 k14 x0 x2 x3 y0 y1 = some Z) : GoC l G RX8 "sumOfPairs" cX8_sumOfPairs 4 (some .int) 2 43 n0 u0 (some (.int Z)) σ 43 [(0, G.rv x0), (2, .int x2), (3, .int x3)] [.int y1, .int y0] σ := by
  unfold kX8_sumOfPairs_43 at h
  refine GoC.iadd dX8_sumOfPairs_43 ?_
  refine GoC.istore_n [(0, G.rv x0), (1, .int (y0 + y1)), (2, .int x2), (3, .int x3)] dX8_sumOfPairs_44 (by decide) rfl ?_
  refine GoC.iinc (w := 1) 3 [(0, G.rv x0), (1, .int (y0 + y1)), (2, .int x2), (3, .int (x3 + 1))] dX8_sumOfPairs_45 rfl (by decide) (by decide) rfl ?_
  refine GoC.goto 14 dX8_sumOfPairs_48 (by decide) ?_
  exact h14 _ _ _ _ h
set_option maxRecDepth 20000 in
theorem ksX8_sumOfPairs_14 {l : Launch} {G : Gt} {n0 u0 : Nat} {σ : Hp} {Z : Int32} (k4 : Nat → Int32 → Int32 → Option (Int32)) (h4 : ∀ (x0 : Nat) (x1 : Int32) (x2 : Int32), k4 x0 x1 x2 = some Z → GoC l G RX8 "sumOfPairs" cX8_sumOfPairs 4 (some .int) 2 43 n0 u0 (some (.int Z)) σ 4 [(0, G.rv x0), (1, .int x1), (2, .int x2)] [] σ) (n : Nat) : ∀ (x0 : Nat) (x1 : Int32) (x2 : Int32) (x3 : Int32), kX8_sumOfPairs_14 σ k4 n x0 x1 x2 x3 = some Z → GoC l G RX8 "sumOfPairs" cX8_sumOfPairs 4 (some .int) 2 43 n0 u0 (some (.int Z)) σ 14 [(0, G.rv x0), (1, .int x1), (2, .int x2), (3, .int x3)] [] σ := by
  induction n with
  | zero => intro x0 x1 x2 x3 h; rw [kX8_sumOfPairs_14] at h; cases h
  | succ n ih =>
    intro x0 x1 x2 x3 h
    rw [kX8_sumOfPairs_14] at h
    refine GoC.iload_n 3 dX8_sumOfPairs_14 rfl ?_
    refine GoC.bipush 40 dX8_sumOfPairs_15 (by decide) ?_
    refine GoC.icmp_ge 51 dX8_sumOfPairs_17 (by decide) h (fun h => ?_) (fun h => ?_)
    · refine GoC.iinc (w := 1) 2 [(0, G.rv x0), (1, .int x1), (2, .int (x2 + 1)), (3, .int x3)] dX8_sumOfPairs_51 rfl (by decide) (by decide) rfl ?_
      refine GoC.goto 4 dX8_sumOfPairs_54 (by decide) ?_
      refine GoC.sub [0, 1, 2] rfl ?_
      exact h4 _ _ _ h
    · refine GoC.iload_n 1 dX8_sumOfPairs_20 rfl ?_
      refine GC.aload_n 0 dX8_sumOfPairs_21 rfl ?_
      refine GoC.iload_n 2 dX8_sumOfPairs_22 rfl ?_
      refine GoC.iload_n 3 dX8_sumOfPairs_23 rfl ?_
      obtain ⟨h0, h⟩ := ckd_some h
      obtain ⟨v1, hq, h⟩ := Option.bind_eq_some_iff.mp h
      refine GC.callvI (rest := [.int x1]) 8 rfl h0 rfl [.int x2, .int x3] dX8_sumOfPairs_24 kk_X8_62 km_X8_isPair.1 km_X8_isPair.2 (ktX8_isPair _ _ _ _ hq) rfl rfl (Nat.le_of_ble_eq_true rfl) (Nat.le_of_ble_eq_true rfl) ⟨rfl, trivial⟩ (Nat.le_of_ble_eq_true rfl) ?_
      refine GoC.if_eq 42 dX8_sumOfPairs_27 (by decide) h (fun h => ?_) (fun h => ?_)
      · refine GoC.iconst 0 dX8_sumOfPairs_42 (by decide) ?_
        refine GoC.sub [0, 2, 3] rfl ?_
        exact ksX8_sumOfPairs_43 _ h4 _ ih _ _ _ _ _ h
      · refine GC.aload_n 0 dX8_sumOfPairs_30 rfl ?_
        refine GC.getr 8 1 rfl (by decide) (by decide) fw_X8_28 (Or.inl rfl) dX8_sumOfPairs_31 h (fun v2 h => ?_)
        refine GoC.iload_n 2 dX8_sumOfPairs_34 rfl ?_
        refine GoC.iload_n 3 dX8_sumOfPairs_35 rfl ?_
        obtain ⟨h0, h⟩ := ckd_some h
        obtain ⟨v3, hq, h⟩ := Option.bind_eq_some_iff.mp h
        refine GC.callvI (rest := [.int x1]) 1 rfl h0 rfl [.int x2, .int x3] dX8_sumOfPairs_36 kk_X8_52 km_X1_of.1 km_X1_of.2 (ktX1_of _ _ _ _ hq) rfl rfl (Nat.le_of_ble_eq_true rfl) (Nat.le_of_ble_eq_true rfl) ⟨rfl, trivial⟩ (Nat.le_of_ble_eq_true rfl) ?_
        refine GoC.goto 43 dX8_sumOfPairs_39 (by decide) ?_
        refine GoC.sub [0, 2, 3] rfl ?_
        exact ksX8_sumOfPairs_43 _ h4 _ ih _ _ _ _ _ h
set_option maxRecDepth 20000 in
theorem ksX8_sumOfPairs_4 {l : Launch} {G : Gt} {n0 u0 : Nat} {σ : Hp} {Z : Int32} (n : Nat) : ∀ (x0 : Nat) (x1 : Int32) (x2 : Int32), kX8_sumOfPairs_4 σ n x0 x1 x2 = some Z → GoC l G RX8 "sumOfPairs" cX8_sumOfPairs 4 (some .int) 2 43 n0 u0 (some (.int Z)) σ 4 [(0, G.rv x0), (1, .int x1), (2, .int x2)] [] σ := by
  induction n with
  | zero => intro x0 x1 x2 h; rw [kX8_sumOfPairs_4] at h; cases h
  | succ n ih =>
    intro x0 x1 x2 h
    rw [kX8_sumOfPairs_4] at h
    refine GoC.iload_n 2 dX8_sumOfPairs_4 rfl ?_
    refine GoC.bipush 40 dX8_sumOfPairs_5 (by decide) ?_
    refine GoC.icmp_ge 57 dX8_sumOfPairs_7 (by decide) h (fun h => ?_) (fun h => ?_)
    · refine GoC.iload_n 1 dX8_sumOfPairs_57 rfl ?_
      cases h
      exact GoC.iret dX8_sumOfPairs_58 rfl
    · refine GoC.iload_n 2 dX8_sumOfPairs_10 rfl ?_
      refine GoC.iconst 1 dX8_sumOfPairs_11 (by decide) ?_
      refine GoC.iadd dX8_sumOfPairs_12 ?_
      refine GoC.istore_n [(0, G.rv x0), (1, .int x1), (2, .int x2), (3, .int (x2 + 1))] dX8_sumOfPairs_13 (by decide) rfl ?_
      exact ksX8_sumOfPairs_14 _ ih _ _ _ _ _ h
set_option maxRecDepth 20000 in
theorem ksX8_sumOfPairs {l : Launch} {G : Gt} {n0 u0 : Nat} {σ : Hp} {Z : Int32} (x0 : Nat) (h : kX8_sumOfPairs σ x0 = some Z) : GoC l G RX8 "sumOfPairs" cX8_sumOfPairs 4 (some .int) 2 43 n0 u0 (some (.int Z)) σ 0 [(0, G.rv x0)] [] σ := by
  unfold kX8_sumOfPairs at h
  refine GoC.iconst 0 dX8_sumOfPairs_0 (by decide) ?_
  refine GoC.istore_n [(0, G.rv x0), (1, .int 0)] dX8_sumOfPairs_1 (by decide) rfl ?_
  refine GoC.iconst 0 dX8_sumOfPairs_2 (by decide) ?_
  refine GoC.istore_n [(0, G.rv x0), (1, .int 0), (2, .int 0)] dX8_sumOfPairs_3 (by decide) rfl ?_
  exact ksX8_sumOfPairs_4 _ _ _ _ h
set_option maxRecDepth 20000 in
theorem ktX8_sumOfPairs {l : Launch} {G : Gt} {σ : Hp} (x0 : Nat) : ∀ Z, kX8_sumOfPairs σ x0 = some Z → MtC l G yX8_sumOfPairs cX8_sumOfPairs 4 (some .int) 2 43 [G.rv x0] σ (some (.int Z)) σ := fun Z h => MtC.at (by decide +kernel) ⟨G.rv_cat _, trivial⟩ (Nat.le_of_ble_eq_true rfl) (ksX8_sumOfPairs x0 h)
/-! X8_leastFrom -/
def kX8_leastFrom_54 (σ : Hp) (k4 : Nat → Int32 → Int32 → Int32 → Option (Int32)) (x0 : Nat) (x1 : Int32) (x2 : Int32) (x3 : Int32) : Option (Int32) := k4 x0 x1 x2 (x3 + 1)
def kX8_leastFrom_44 (σ : Hp) (k4 : Nat → Int32 → Int32 → Int32 → Option (Int32)) (x0 : Nat) (x1 : Int32) (x3 : Int32) : Option (Int32) := (gfr σ 18 801 x0).bind (fun v1 => ckd σ v1 11 ((kX1_of σ v1 x1 x3).bind (fun v2 => kX8_leastFrom_54 σ k4 x0 x1 v2 x3)))
def kX8_leastFrom_4 (σ : Hp)  : Nat → Nat → Int32 → Int32 → Int32 → Option (Int32)
  | 0, _, _, _, _ => none
  | n + 1, x0, x1, x2, x3 => if 40 ≤ x3 then some x2 else if x3 = x1 then kX8_leastFrom_54 σ (kX8_leastFrom_4 σ n) x0 x1 x2 x3 else (gfr σ 18 800 x0).bind (fun v3 => ckd σ v3 17 ((kX7_has σ v3 x3).bind (fun v4 => if v4 = 0 then kX8_leastFrom_54 σ (kX8_leastFrom_4 σ n) x0 x1 x2 x3 else if x2 = (-1) then kX8_leastFrom_44 σ (kX8_leastFrom_4 σ n) x0 x1 x3 else (gfr σ 18 801 x0).bind (fun v5 => ckd σ v5 11 ((kX1_of σ v5 x1 x3).bind (fun v6 => if x2 ≤ v6 then kX8_leastFrom_54 σ (kX8_leastFrom_4 σ n) x0 x1 x2 x3 else kX8_leastFrom_44 σ (kX8_leastFrom_4 σ n) x0 x1 x3))))))
def kX8_leastFrom (σ : Hp) (x0 : Nat) (x1 : Int32) : Option (Int32) := kX8_leastFrom_4 σ FU x0 x1 (-1) 0
set_option maxRecDepth 20000 in
theorem ksX8_leastFrom_54 {l : Launch} {G : Gt} {n0 u0 : Nat} {σ : Hp} {Z : Int32} (k4 : Nat → Int32 → Int32 → Int32 → Option (Int32)) (h4 : ∀ (x0 : Nat) (x1 : Int32) (x2 : Int32) (x3 : Int32), k4 x0 x1 x2 x3 = some Z → GoC l G RX8 "leastFrom" cX8_leastFrom 4 (some .int) 1 22 n0 u0 (some (.int Z)) σ 4 [(0, G.rv x0), (1, .int x1), (2, .int x2), (3, .int x3)] [] σ) (x0 : Nat) (x1 : Int32) (x2 : Int32) (x3 : Int32) (h : kX8_leastFrom_54 σ k4 x0 x1 x2 x3 = some Z) : GoC l G RX8 "leastFrom" cX8_leastFrom 4 (some .int) 1 22 n0 u0 (some (.int Z)) σ 54 [(0, G.rv x0), (1, .int x1), (2, .int x2), (3, .int x3)] [] σ := by
  unfold kX8_leastFrom_54 at h
  refine GoC.iinc (w := 1) 3 [(0, G.rv x0), (1, .int x1), (2, .int x2), (3, .int (x3 + 1))] dX8_leastFrom_54 rfl (by decide) (by decide) rfl ?_
  refine GoC.goto 4 dX8_leastFrom_57 (by decide) ?_
  exact h4 _ _ _ _ h
set_option maxRecDepth 20000 in
theorem ksX8_leastFrom_44 {l : Launch} {G : Gt} {n0 u0 : Nat} {σ : Hp} {Z : Int32} (k4 : Nat → Int32 → Int32 → Int32 → Option (Int32)) (h4 : ∀ (x0 : Nat) (x1 : Int32) (x2 : Int32) (x3 : Int32), k4 x0 x1 x2 x3 = some Z → GoC l G RX8 "leastFrom" cX8_leastFrom 4 (some .int) 1 22 n0 u0 (some (.int Z)) σ 4 [(0, G.rv x0), (1, .int x1), (2, .int x2), (3, .int x3)] [] σ) (x0 : Nat) (x1 : Int32) (x3 : Int32) (h : kX8_leastFrom_44 σ k4 x0 x1 x3 = some Z) : GoC l G RX8 "leastFrom" cX8_leastFrom 4 (some .int) 1 22 n0 u0 (some (.int Z)) σ 44 [(0, G.rv x0), (1, .int x1), (3, .int x3)] [] σ := by
  unfold kX8_leastFrom_44 at h
  refine GC.aload_n 0 dX8_leastFrom_44 rfl ?_
  refine GC.getr 8 1 rfl (by decide) (by decide) fw_X8_28 (Or.inl rfl) dX8_leastFrom_45 h (fun v1 h => ?_)
  refine GoC.iload_n 1 dX8_leastFrom_48 rfl ?_
  refine GoC.iload_n 2 dX8_leastFrom_49 rfl ?_
  obtain ⟨h0, h⟩ := ckd_some h
  obtain ⟨v2, hq, h⟩ := Option.bind_eq_some_iff.mp h
  refine GC.callvI (rest := []) 1 rfl h0 rfl [.int x1, .int x3] dX8_leastFrom_50 kk_X8_52 km_X1_of.1 km_X1_of.2 (ktX1_of _ _ _ _ hq) rfl rfl (Nat.le_of_ble_eq_true rfl) (Nat.le_of_ble_eq_true rfl) trivial (Nat.le_of_ble_eq_true rfl) ?_
  refine GoC.istore_n [(0, G.rv x0), (1, .int x1), (2, .int v2), (3, .int x3)] dX8_leastFrom_53 (by decide) rfl ?_
  exact ksX8_leastFrom_54 _ h4 _ _ _ _ h
set_option maxRecDepth 20000 in
theorem ksX8_leastFrom_4 {l : Launch} {G : Gt} {n0 u0 : Nat} {σ : Hp} {Z : Int32} (n : Nat) : ∀ (x0 : Nat) (x1 : Int32) (x2 : Int32) (x3 : Int32), kX8_leastFrom_4 σ n x0 x1 x2 x3 = some Z → GoC l G RX8 "leastFrom" cX8_leastFrom 4 (some .int) 1 22 n0 u0 (some (.int Z)) σ 4 [(0, G.rv x0), (1, .int x1), (2, .int x2), (3, .int x3)] [] σ := by
  induction n with
  | zero => intro x0 x1 x2 x3 h; rw [kX8_leastFrom_4] at h; cases h
  | succ n ih =>
    intro x0 x1 x2 x3 h
    rw [kX8_leastFrom_4] at h
    refine GoC.iload_n 3 dX8_leastFrom_4 rfl ?_
    refine GoC.bipush 40 dX8_leastFrom_5 (by decide) ?_
    refine GoC.icmp_ge 60 dX8_leastFrom_7 (by decide) h (fun h => ?_) (fun h => ?_)
    · refine GoC.iload_n 2 dX8_leastFrom_60 rfl ?_
      cases h
      exact GoC.iret dX8_leastFrom_61 rfl
    · refine GoC.iload_n 3 dX8_leastFrom_10 rfl ?_
      refine GoC.iload_n 1 dX8_leastFrom_11 rfl ?_
      refine GoC.icmp_eq 54 dX8_leastFrom_12 (by decide) h (fun h => ?_) (fun h => ?_)
      · exact ksX8_leastFrom_54 _ ih _ _ _ _ h
      · refine GC.aload_n 0 dX8_leastFrom_15 rfl ?_
        refine GC.getr 8 0 rfl (by decide) (by decide) fw_X8_24 (Or.inl rfl) dX8_leastFrom_16 h (fun v3 h => ?_)
        refine GoC.iload_n 3 dX8_leastFrom_19 rfl ?_
        obtain ⟨h0, h⟩ := ckd_some h
        obtain ⟨v4, hq, h⟩ := Option.bind_eq_some_iff.mp h
        refine GC.callvI (rest := []) 7 rfl h0 rfl [.int x3] dX8_leastFrom_20 kk_X8_42 km_X7_has.1 km_X7_has.2 (ktX7_has _ _ _ hq) rfl rfl (Nat.le_of_ble_eq_true rfl) (Nat.le_of_ble_eq_true rfl) trivial (Nat.le_of_ble_eq_true rfl) ?_
        refine GoC.if_eq 54 dX8_leastFrom_23 (by decide) h (fun h => ?_) (fun h => ?_)
        · exact ksX8_leastFrom_54 _ ih _ _ _ _ h
        · refine GoC.iload_n 2 dX8_leastFrom_26 rfl ?_
          refine GoC.iconst (-1) dX8_leastFrom_27 (by decide) ?_
          refine GoC.icmp_eq 44 dX8_leastFrom_28 (by decide) h (fun h => ?_) (fun h => ?_)
          · refine GoC.sub [0, 1, 3] rfl ?_
            exact ksX8_leastFrom_44 _ ih _ _ _ h
          · refine GC.aload_n 0 dX8_leastFrom_31 rfl ?_
            refine GC.getr 8 1 rfl (by decide) (by decide) fw_X8_28 (Or.inl rfl) dX8_leastFrom_32 h (fun v5 h => ?_)
            refine GoC.iload_n 1 dX8_leastFrom_35 rfl ?_
            refine GoC.iload_n 3 dX8_leastFrom_36 rfl ?_
            obtain ⟨h0, h⟩ := ckd_some h
            obtain ⟨v6, hq, h⟩ := Option.bind_eq_some_iff.mp h
            refine GC.callvI (rest := []) 1 rfl h0 rfl [.int x1, .int x3] dX8_leastFrom_37 kk_X8_52 km_X1_of.1 km_X1_of.2 (ktX1_of _ _ _ _ hq) rfl rfl (Nat.le_of_ble_eq_true rfl) (Nat.le_of_ble_eq_true rfl) trivial (Nat.le_of_ble_eq_true rfl) ?_
            refine GoC.iload_n 2 dX8_leastFrom_40 rfl ?_
            refine GoC.icmp_ge 54 dX8_leastFrom_41 (by decide) h (fun h => ?_) (fun h => ?_)
            · exact ksX8_leastFrom_54 _ ih _ _ _ _ h
            · refine GoC.sub [0, 1, 3] rfl ?_
              exact ksX8_leastFrom_44 _ ih _ _ _ h
set_option maxRecDepth 20000 in
theorem ksX8_leastFrom {l : Launch} {G : Gt} {n0 u0 : Nat} {σ : Hp} {Z : Int32} (x0 : Nat) (x1 : Int32) (h : kX8_leastFrom σ x0 x1 = some Z) : GoC l G RX8 "leastFrom" cX8_leastFrom 4 (some .int) 1 22 n0 u0 (some (.int Z)) σ 0 [(0, G.rv x0), (1, .int x1)] [] σ := by
  unfold kX8_leastFrom at h
  refine GoC.iconst (-1) dX8_leastFrom_0 (by decide) ?_
  refine GoC.istore_n [(0, G.rv x0), (1, .int x1), (2, .int (-1))] dX8_leastFrom_1 (by decide) rfl ?_
  refine GoC.iconst 0 dX8_leastFrom_2 (by decide) ?_
  refine GoC.istore_n [(0, G.rv x0), (1, .int x1), (2, .int (-1)), (3, .int 0)] dX8_leastFrom_3 (by decide) rfl ?_
  exact ksX8_leastFrom_4 _ _ _ _ _ h
set_option maxRecDepth 20000 in
theorem ktX8_leastFrom {l : Launch} {G : Gt} {σ : Hp} (x0 : Nat) (x1 : Int32) : ∀ Z, kX8_leastFrom σ x0 x1 = some Z → MtC l G yX8_leastFrom cX8_leastFrom 4 (some .int) 1 22 [G.rv x0, .int x1] σ (some (.int Z)) σ := fun Z h => MtC.at (by decide +kernel) ⟨G.rv_cat _, rfl, trivial⟩ (Nat.le_of_ble_eq_true rfl) (ksX8_leastFrom x0 x1 h)
/-! X8_findLonely -/
def kX8_findLonely_69 (σ : Hp) (k19 : Nat → Int32 → Int32 → Int32 → Option (Int32)) (x0 : Nat) (x1 : Int32) (x2 : Int32) (x3 : Int32) : Option (Int32) := k19 x0 x1 x2 (x3 + 1)
def kX8_findLonely_64 (σ : Hp) (k19 : Nat → Int32 → Int32 → Int32 → Option (Int32)) (x0 : Nat) (x3 : Int32) (x4 : Int32) : Option (Int32) := kX8_findLonely_69 σ k19 x0 x3 x4 x3
def kX8_findLonely_45 (σ : Hp) (k19 : Nat → Int32 → Int32 → Int32 → Option (Int32)) (x0 : Nat) (x1 : Int32) (x2 : Int32) (x3 : Int32) (y0 : Int32) : Option (Int32) := if y0 = (-1) then kX8_findLonely_69 σ k19 x0 x1 x2 x3 else if x1 = (-1) then kX8_findLonely_64 σ k19 x0 x3 y0 else if y0 ≤ x2 then kX8_findLonely_69 σ k19 x0 x1 x2 x3 else kX8_findLonely_64 σ k19 x0 x3 y0
def kX8_findLonely_19 (σ : Hp)  : Nat → Nat → Int32 → Int32 → Int32 → Option (Int32)
  | 0, _, _, _, _ => none
  | n + 1, x0, x1, x2, x3 => if 40 ≤ x3 then some x1 else (gfr σ 18 800 x0).bind (fun v1 => ckd σ v1 17 ((kX7_has σ v1 x3).bind (fun v2 => if v2 = 0 then kX8_findLonely_45 σ (kX8_findLonely_19 σ n) x0 x1 x2 x3 (-1) else ckd σ x0 18 ((kX8_leastFrom σ x0 x3).bind (fun v3 => kX8_findLonely_45 σ (kX8_findLonely_19 σ n) x0 x1 x2 x3 v3)))))
def kX8_findLonely (σ : Hp) (x0 : Nat) : Option (Int32) := (gfr σ 18 800 x0).bind (fun v4 => (gfi σ 17 701 v4).bind (fun v5 => if 2 ≤ v5 then kX8_findLonely_19 σ FU x0 (-1) 0 0 else some (-1)))
set_option maxRecDepth 20000 in
theorem ksX8_findLonely_69 {l : Launch} {G : Gt} {n0 u0 : Nat} {σ : Hp} {Z : Int32} (k19 : Nat → Int32 → Int32 → Int32 → Option (Int32)) (h19 : ∀ (x0 : Nat) (x1 : Int32) (x2 : Int32) (x3 : Int32), k19 x0 x1 x2 x3 = some Z → GoC l G RX8 "findLonely" cX8_findLonely 5 (some .int) 2 45 n0 u0 (some (.int Z)) σ 19 [(0, G.rv x0), (1, .int x1), (2, .int x2), (3, .int x3)] [] σ) (x0 : Nat) (x1 : Int32) (x2 : Int32) (x3 : Int32) (h : kX8_findLonely_69 σ k19 x0 x1 x2 x3 = some Z) : GoC l G RX8 "findLonely" cX8_findLonely 5 (some .int) 2 45 n0 u0 (some (.int Z)) σ 69 [(0, G.rv x0), (1, .int x1), (2, .int x2), (3, .int x3)] [] σ := by
  unfold kX8_findLonely_69 at h
  refine GoC.iinc (w := 1) 3 [(0, G.rv x0), (1, .int x1), (2, .int x2), (3, .int (x3 + 1))] dX8_findLonely_69 rfl (by decide) (by decide) rfl ?_
  refine GoC.goto 19 dX8_findLonely_72 (by decide) ?_
  exact h19 _ _ _ _ h
set_option maxRecDepth 20000 in
theorem ksX8_findLonely_64 {l : Launch} {G : Gt} {n0 u0 : Nat} {σ : Hp} {Z : Int32} (k19 : Nat → Int32 → Int32 → Int32 → Option (Int32)) (h19 : ∀ (x0 : Nat) (x1 : Int32) (x2 : Int32) (x3 : Int32), k19 x0 x1 x2 x3 = some Z → GoC l G RX8 "findLonely" cX8_findLonely 5 (some .int) 2 45 n0 u0 (some (.int Z)) σ 19 [(0, G.rv x0), (1, .int x1), (2, .int x2), (3, .int x3)] [] σ) (x0 : Nat) (x3 : Int32) (x4 : Int32) (h : kX8_findLonely_64 σ k19 x0 x3 x4 = some Z) : GoC l G RX8 "findLonely" cX8_findLonely 5 (some .int) 2 45 n0 u0 (some (.int Z)) σ 64 [(0, G.rv x0), (3, .int x3), (4, .int x4)] [] σ := by
  unfold kX8_findLonely_64 at h
  refine GoC.iload_n 1 dX8_findLonely_64 rfl ?_
  refine GoC.istore_n [(0, G.rv x0), (1, .int x3), (3, .int x3), (4, .int x4)] dX8_findLonely_65 (by decide) rfl ?_
  refine GoC.iload 3 dX8_findLonely_66 rfl ?_
  refine GoC.istore_n [(0, G.rv x0), (1, .int x3), (2, .int x4), (3, .int x3), (4, .int x4)] dX8_findLonely_68 (by decide) rfl ?_
  refine GoC.sub [0, 1, 2, 3] rfl ?_
  exact ksX8_findLonely_69 _ h19 _ _ _ _ h
set_option maxRecDepth 20000 in
theorem ksX8_findLonely_45 {l : Launch} {G : Gt} {n0 u0 : Nat} {σ : Hp} {Z : Int32} (k19 : Nat → Int32 → Int32 → Int32 → Option (Int32)) (h19 : ∀ (x0 : Nat) (x1 : Int32) (x2 : Int32) (x3 : Int32), k19 x0 x1 x2 x3 = some Z → GoC l G RX8 "findLonely" cX8_findLonely 5 (some .int) 2 45 n0 u0 (some (.int Z)) σ 19 [(0, G.rv x0), (1, .int x1), (2, .int x2), (3, .int x3)] [] σ) (x0 : Nat) (x1 : Int32) (x2 : Int32) (x3 : Int32) (y0 : Int32) (h : kX8_findLonely_45 σ k19 x0 x1 x2 x3 y0 = some Z) : GoC l G RX8 "findLonely" cX8_findLonely 5 (some .int) 2 45 n0 u0 (some (.int Z)) σ 45 [(0, G.rv x0), (1, .int x1), (2, .int x2), (3, .int x3)] [.int y0] σ := by
  unfold kX8_findLonely_45 at h
  refine GoC.istore [(0, G.rv x0), (1, .int x1), (2, .int x2), (3, .int x3), (4, .int y0)] dX8_findLonely_45 (by decide) rfl ?_
  refine GoC.iload 4 dX8_findLonely_47 rfl ?_
  refine GoC.iconst (-1) dX8_findLonely_49 (by decide) ?_
  refine GoC.icmp_eq 69 dX8_findLonely_50 (by decide) h (fun h => ?_) (fun h => ?_)
  · refine GoC.sub [0, 1, 2, 3] rfl ?_
    exact ksX8_findLonely_69 _ h19 _ _ _ _ h
  · refine GoC.iload_n 1 dX8_findLonely_53 rfl ?_
    refine GoC.iconst (-1) dX8_findLonely_54 (by decide) ?_
    refine GoC.icmp_eq 64 dX8_findLonely_55 (by decide) h (fun h => ?_) (fun h => ?_)
    · refine GoC.sub [0, 3, 4] rfl ?_
      exact ksX8_findLonely_64 _ h19 _ _ _ h
    · refine GoC.iload 4 dX8_findLonely_58 rfl ?_
      refine GoC.iload_n 2 dX8_findLonely_60 rfl ?_
      refine GoC.icmp_le 69 dX8_findLonely_61 (by decide) h (fun h => ?_) (fun h => ?_)
      · refine GoC.sub [0, 1, 2, 3] rfl ?_
        exact ksX8_findLonely_69 _ h19 _ _ _ _ h
      · refine GoC.sub [0, 3, 4] rfl ?_
        exact ksX8_findLonely_64 _ h19 _ _ _ h
set_option maxRecDepth 20000 in
theorem ksX8_findLonely_19 {l : Launch} {G : Gt} {n0 u0 : Nat} {σ : Hp} {Z : Int32} (n : Nat) : ∀ (x0 : Nat) (x1 : Int32) (x2 : Int32) (x3 : Int32), kX8_findLonely_19 σ n x0 x1 x2 x3 = some Z → GoC l G RX8 "findLonely" cX8_findLonely 5 (some .int) 2 45 n0 u0 (some (.int Z)) σ 19 [(0, G.rv x0), (1, .int x1), (2, .int x2), (3, .int x3)] [] σ := by
  induction n with
  | zero => intro x0 x1 x2 x3 h; rw [kX8_findLonely_19] at h; cases h
  | succ n ih =>
    intro x0 x1 x2 x3 h
    rw [kX8_findLonely_19] at h
    refine GoC.iload_n 3 dX8_findLonely_19 rfl ?_
    refine GoC.bipush 40 dX8_findLonely_20 (by decide) ?_
    refine GoC.icmp_ge 75 dX8_findLonely_22 (by decide) h (fun h => ?_) (fun h => ?_)
    · refine GoC.iload_n 1 dX8_findLonely_75 rfl ?_
      cases h
      exact GoC.iret dX8_findLonely_76 rfl
    · refine GC.aload_n 0 dX8_findLonely_25 rfl ?_
      refine GC.getr 8 0 rfl (by decide) (by decide) fw_X8_24 (Or.inl rfl) dX8_findLonely_26 h (fun v1 h => ?_)
      refine GoC.iload_n 3 dX8_findLonely_29 rfl ?_
      obtain ⟨h0, h⟩ := ckd_some h
      obtain ⟨v2, hq, h⟩ := Option.bind_eq_some_iff.mp h
      refine GC.callvI (rest := []) 7 rfl h0 rfl [.int x3] dX8_findLonely_30 kk_X8_42 km_X7_has.1 km_X7_has.2 (ktX7_has _ _ _ hq) rfl rfl (Nat.le_of_ble_eq_true rfl) (Nat.le_of_ble_eq_true rfl) trivial (Nat.le_of_ble_eq_true rfl) ?_
      refine GoC.if_eq 44 dX8_findLonely_33 (by decide) h (fun h => ?_) (fun h => ?_)
      · refine GoC.iconst (-1) dX8_findLonely_44 (by decide) ?_
        exact ksX8_findLonely_45 _ ih _ _ _ _ _ h
      · refine GC.aload_n 0 dX8_findLonely_36 rfl ?_
        refine GoC.iload_n 3 dX8_findLonely_37 rfl ?_
        obtain ⟨h0, h⟩ := ckd_some h
        obtain ⟨v3, hq, h⟩ := Option.bind_eq_some_iff.mp h
        refine GC.callvI (rest := []) 8 rfl h0 rfl [.int x3] dX8_findLonely_38 kk_X8_68 km_X8_leastFrom.1 km_X8_leastFrom.2 (ktX8_leastFrom _ _ _ hq) rfl rfl (Nat.le_of_ble_eq_true rfl) (Nat.le_of_ble_eq_true rfl) trivial (Nat.le_of_ble_eq_true rfl) ?_
        refine GoC.goto 45 dX8_findLonely_41 (by decide) ?_
        exact ksX8_findLonely_45 _ ih _ _ _ _ _ h
set_option maxRecDepth 20000 in
theorem ksX8_findLonely {l : Launch} {G : Gt} {n0 u0 : Nat} {σ : Hp} {Z : Int32} (x0 : Nat) (h : kX8_findLonely σ x0 = some Z) : GoC l G RX8 "findLonely" cX8_findLonely 5 (some .int) 2 45 n0 u0 (some (.int Z)) σ 0 [(0, G.rv x0)] [] σ := by
  unfold kX8_findLonely at h
  refine GC.aload_n 0 dX8_findLonely_0 rfl ?_
  refine GC.getr 8 0 rfl (by decide) (by decide) fw_X8_24 (Or.inl rfl) dX8_findLonely_1 h (fun v4 h => ?_)
  refine GC.geti 7 1 rfl (by decide) (by decide) fw_X8_65 (Or.inl rfl) dX8_findLonely_4 h (fun v5 h => ?_)
  refine GoC.iconst 2 dX8_findLonely_7 (by decide) ?_
  refine GoC.icmp_ge 13 dX8_findLonely_8 (by decide) h (fun h => ?_) (fun h => ?_)
  · refine GoC.iconst (-1) dX8_findLonely_13 (by decide) ?_
    refine GoC.istore_n [(0, G.rv x0), (1, .int (-1))] dX8_findLonely_14 (by decide) rfl ?_
    refine GoC.iconst 0 dX8_findLonely_15 (by decide) ?_
    refine GoC.istore_n [(0, G.rv x0), (1, .int (-1)), (2, .int 0)] dX8_findLonely_16 (by decide) rfl ?_
    refine GoC.iconst 0 dX8_findLonely_17 (by decide) ?_
    refine GoC.istore_n [(0, G.rv x0), (1, .int (-1)), (2, .int 0), (3, .int 0)] dX8_findLonely_18 (by decide) rfl ?_
    exact ksX8_findLonely_19 _ _ _ _ _ h
  · refine GoC.iconst (-1) dX8_findLonely_11 (by decide) ?_
    cases h
    exact GoC.iret dX8_findLonely_12 rfl
set_option maxRecDepth 20000 in
theorem ktX8_findLonely {l : Launch} {G : Gt} {σ : Hp} (x0 : Nat) : ∀ Z, kX8_findLonely σ x0 = some Z → MtC l G yX8_findLonely cX8_findLonely 5 (some .int) 2 45 [G.rv x0] σ (some (.int Z)) σ := fun Z h => MtC.at (by decide +kernel) ⟨G.rv_cat _, trivial⟩ (Nat.le_of_ble_eq_true rfl) (ksX8_findLonely x0 h)
/-! X8_sumFrom -/
def kX8_sumFrom_35 (σ : Hp) (k4 : Nat → Int32 → Int32 → Int32 → Option (Int32)) (x0 : Nat) (x1 : Int32) (x3 : Int32) (y0 : Int32) (y1 : Int32) : Option (Int32) := k4 x0 x1 (y0 + y1) (x3 + 1)
def kX8_sumFrom_4 (σ : Hp)  : Nat → Nat → Int32 → Int32 → Int32 → Option (Int32)
  | 0, _, _, _, _ => none
  | n + 1, x0, x1, x2, x3 => if 40 ≤ x3 then some x2 else (gfr σ 18 800 x0).bind (fun v1 => ckd σ v1 17 ((kX7_has σ v1 x3).bind (fun v2 => if v2 = 0 then kX8_sumFrom_35 σ (kX8_sumFrom_4 σ n) x0 x1 x3 x2 0 else (gfr σ 18 801 x0).bind (fun v3 => ckd σ v3 11 ((kX1_of σ v3 x1 x3).bind (fun v4 => kX8_sumFrom_35 σ (kX8_sumFrom_4 σ n) x0 x1 x3 x2 v4))))))
def kX8_sumFrom (σ : Hp) (x0 : Nat) (x1 : Int32) : Option (Int32) := kX8_sumFrom_4 σ FU x0 x1 0 0
set_option maxRecDepth 20000 in
theorem ksX8_sumFrom_35 {l : Launch} {G : Gt} {n0 u0 : Nat} {σ : Hp} {Z : Int32} (k4 : Nat → Int32 → Int32 → Int32 → Option (Int32)) (h4 : ∀ (x0 : Nat) (x1 : Int32) (x2 : Int32) (x3 : Int32), k4 x0 x1 x2 x3 = some Z → GoC l G RX8 "sumFrom" cX8_sumFrom 4 (some .int) 1 22 n0 u0 (some (.int Z)) σ 4 [(0, G.rv x0), (1, .int x1), (2, .int x2), (3, .int x3)] [] σ) (x0 : Nat) (x1 : Int32) (x3 : Int32) (y0 : Int32) (y1 : Int32) (h : kX8_sumFrom_35 σ k4 x0 x1 x3 y0 y1 = some Z) : GoC l G RX8 "sumFrom" cX8_sumFrom 4 (some .int) 1 22 n0 u0 (some (.int Z)) σ 35 [(0, G.rv x0), (1, .int x1), (3, .int x3)] [.int y1, .int y0] σ := by
  unfold kX8_sumFrom_35 at h
  refine GoC.iadd dX8_sumFrom_35 ?_
  refine GoC.istore_n [(0, G.rv x0), (1, .int x1), (2, .int (y0 + y1)), (3, .int x3)] dX8_sumFrom_36 (by decide) rfl ?_
  refine GoC.iinc (w := 1) 3 [(0, G.rv x0), (1, .int x1), (2, .int (y0 + y1)), (3, .int (x3 + 1))] dX8_sumFrom_37 rfl (by decide) (by decide) rfl ?_
  refine GoC.goto 4 dX8_sumFrom_40 (by decide) ?_
  exact h4 _ _ _ _ h
set_option maxRecDepth 20000 in
theorem ksX8_sumFrom_4 {l : Launch} {G : Gt} {n0 u0 : Nat} {σ : Hp} {Z : Int32} (n : Nat) : ∀ (x0 : Nat) (x1 : Int32) (x2 : Int32) (x3 : Int32), kX8_sumFrom_4 σ n x0 x1 x2 x3 = some Z → GoC l G RX8 "sumFrom" cX8_sumFrom 4 (some .int) 1 22 n0 u0 (some (.int Z)) σ 4 [(0, G.rv x0), (1, .int x1), (2, .int x2), (3, .int x3)] [] σ := by
  induction n with
  | zero => intro x0 x1 x2 x3 h; rw [kX8_sumFrom_4] at h; cases h
  | succ n ih =>
    intro x0 x1 x2 x3 h
    rw [kX8_sumFrom_4] at h
    refine GoC.iload_n 3 dX8_sumFrom_4 rfl ?_
    refine GoC.bipush 40 dX8_sumFrom_5 (by decide) ?_
    refine GoC.icmp_ge 43 dX8_sumFrom_7 (by decide) h (fun h => ?_) (fun h => ?_)
    · refine GoC.iload_n 2 dX8_sumFrom_43 rfl ?_
      cases h
      exact GoC.iret dX8_sumFrom_44 rfl
    · refine GoC.iload_n 2 dX8_sumFrom_10 rfl ?_
      refine GC.aload_n 0 dX8_sumFrom_11 rfl ?_
      refine GC.getr 8 0 rfl (by decide) (by decide) fw_X8_24 (Or.inl rfl) dX8_sumFrom_12 h (fun v1 h => ?_)
      refine GoC.iload_n 3 dX8_sumFrom_15 rfl ?_
      obtain ⟨h0, h⟩ := ckd_some h
      obtain ⟨v2, hq, h⟩ := Option.bind_eq_some_iff.mp h
      refine GC.callvI (rest := [.int x2]) 7 rfl h0 rfl [.int x3] dX8_sumFrom_16 kk_X8_42 km_X7_has.1 km_X7_has.2 (ktX7_has _ _ _ hq) rfl rfl (Nat.le_of_ble_eq_true rfl) (Nat.le_of_ble_eq_true rfl) ⟨rfl, trivial⟩ (Nat.le_of_ble_eq_true rfl) ?_
      refine GoC.if_eq 34 dX8_sumFrom_19 (by decide) h (fun h => ?_) (fun h => ?_)
      · refine GoC.iconst 0 dX8_sumFrom_34 (by decide) ?_
        refine GoC.sub [0, 1, 3] rfl ?_
        exact ksX8_sumFrom_35 _ ih _ _ _ _ _ h
      · refine GC.aload_n 0 dX8_sumFrom_22 rfl ?_
        refine GC.getr 8 1 rfl (by decide) (by decide) fw_X8_28 (Or.inl rfl) dX8_sumFrom_23 h (fun v3 h => ?_)
        refine GoC.iload_n 1 dX8_sumFrom_26 rfl ?_
        refine GoC.iload_n 3 dX8_sumFrom_27 rfl ?_
        obtain ⟨h0, h⟩ := ckd_some h
        obtain ⟨v4, hq, h⟩ := Option.bind_eq_some_iff.mp h
        refine GC.callvI (rest := [.int x2]) 1 rfl h0 rfl [.int x1, .int x3] dX8_sumFrom_28 kk_X8_52 km_X1_of.1 km_X1_of.2 (ktX1_of _ _ _ _ hq) rfl rfl (Nat.le_of_ble_eq_true rfl) (Nat.le_of_ble_eq_true rfl) ⟨rfl, trivial⟩ (Nat.le_of_ble_eq_true rfl) ?_
        refine GoC.goto 35 dX8_sumFrom_31 (by decide) ?_
        refine GoC.sub [0, 1, 3] rfl ?_
        exact ksX8_sumFrom_35 _ ih _ _ _ _ _ h
set_option maxRecDepth 20000 in
theorem ksX8_sumFrom {l : Launch} {G : Gt} {n0 u0 : Nat} {σ : Hp} {Z : Int32} (x0 : Nat) (x1 : Int32) (h : kX8_sumFrom σ x0 x1 = some Z) : GoC l G RX8 "sumFrom" cX8_sumFrom 4 (some .int) 1 22 n0 u0 (some (.int Z)) σ 0 [(0, G.rv x0), (1, .int x1)] [] σ := by
  unfold kX8_sumFrom at h
  refine GoC.iconst 0 dX8_sumFrom_0 (by decide) ?_
  refine GoC.istore_n [(0, G.rv x0), (1, .int x1), (2, .int 0)] dX8_sumFrom_1 (by decide) rfl ?_
  refine GoC.iconst 0 dX8_sumFrom_2 (by decide) ?_
  refine GoC.istore_n [(0, G.rv x0), (1, .int x1), (2, .int 0), (3, .int 0)] dX8_sumFrom_3 (by decide) rfl ?_
  exact ksX8_sumFrom_4 _ _ _ _ _ h
set_option maxRecDepth 20000 in
theorem ktX8_sumFrom {l : Launch} {G : Gt} {σ : Hp} (x0 : Nat) (x1 : Int32) : ∀ Z, kX8_sumFrom σ x0 x1 = some Z → MtC l G yX8_sumFrom cX8_sumFrom 4 (some .int) 1 22 [G.rv x0, .int x1] σ (some (.int Z)) σ := fun Z h => MtC.at (by decide +kernel) ⟨G.rv_cat _, rfl, trivial⟩ (Nat.le_of_ble_eq_true rfl) (ksX8_sumFrom x0 x1 h)
/-! X8_findMiddle -/
def kX8_findMiddle_49 (σ : Hp) (k6 : Nat → Int32 → Int32 → Int32 → Option (Int32)) (x0 : Nat) (x1 : Int32) (x2 : Int32) (x3 : Int32) : Option (Int32) := k6 x0 x1 x2 (x3 + 1)
def kX8_findMiddle_44 (σ : Hp) (k6 : Nat → Int32 → Int32 → Int32 → Option (Int32)) (x0 : Nat) (x3 : Int32) (x4 : Int32) : Option (Int32) := kX8_findMiddle_49 σ k6 x0 x3 x4 x3
def kX8_findMiddle_6 (σ : Hp)  : Nat → Nat → Int32 → Int32 → Int32 → Option (Int32)
  | 0, _, _, _, _ => none
  | n + 1, x0, x1, x2, x3 => if 40 ≤ x3 then some x1 else (gfr σ 18 800 x0).bind (fun v1 => ckd σ v1 17 ((kX7_has σ v1 x3).bind (fun v2 => if v2 = 0 then kX8_findMiddle_49 σ (kX8_findMiddle_6 σ n) x0 x1 x2 x3 else ckd σ x0 18 ((kX8_sumFrom σ x0 x3).bind (fun v3 => if x1 = (-1) then kX8_findMiddle_44 σ (kX8_findMiddle_6 σ n) x0 x3 v3 else if x2 ≤ v3 then kX8_findMiddle_49 σ (kX8_findMiddle_6 σ n) x0 x1 x2 x3 else kX8_findMiddle_44 σ (kX8_findMiddle_6 σ n) x0 x3 v3)))))
def kX8_findMiddle (σ : Hp) (x0 : Nat) : Option (Int32) := kX8_findMiddle_6 σ FU x0 (-1) 0 0
set_option maxRecDepth 20000 in
theorem ksX8_findMiddle_49 {l : Launch} {G : Gt} {n0 u0 : Nat} {σ : Hp} {Z : Int32} (k6 : Nat → Int32 → Int32 → Int32 → Option (Int32)) (h6 : ∀ (x0 : Nat) (x1 : Int32) (x2 : Int32) (x3 : Int32), k6 x0 x1 x2 x3 = some Z → GoC l G RX8 "findMiddle" cX8_findMiddle 5 (some .int) 2 45 n0 u0 (some (.int Z)) σ 6 [(0, G.rv x0), (1, .int x1), (2, .int x2), (3, .int x3)] [] σ) (x0 : Nat) (x1 : Int32) (x2 : Int32) (x3 : Int32) (h : kX8_findMiddle_49 σ k6 x0 x1 x2 x3 = some Z) : GoC l G RX8 "findMiddle" cX8_findMiddle 5 (some .int) 2 45 n0 u0 (some (.int Z)) σ 49 [(0, G.rv x0), (1, .int x1), (2, .int x2), (3, .int x3)] [] σ := by
  unfold kX8_findMiddle_49 at h
  refine GoC.iinc (w := 1) 3 [(0, G.rv x0), (1, .int x1), (2, .int x2), (3, .int (x3 + 1))] dX8_findMiddle_49 rfl (by decide) (by decide) rfl ?_
  refine GoC.goto 6 dX8_findMiddle_52 (by decide) ?_
  exact h6 _ _ _ _ h
set_option maxRecDepth 20000 in
theorem ksX8_findMiddle_44 {l : Launch} {G : Gt} {n0 u0 : Nat} {σ : Hp} {Z : Int32} (k6 : Nat → Int32 → Int32 → Int32 → Option (Int32)) (h6 : ∀ (x0 : Nat) (x1 : Int32) (x2 : Int32) (x3 : Int32), k6 x0 x1 x2 x3 = some Z → GoC l G RX8 "findMiddle" cX8_findMiddle 5 (some .int) 2 45 n0 u0 (some (.int Z)) σ 6 [(0, G.rv x0), (1, .int x1), (2, .int x2), (3, .int x3)] [] σ) (x0 : Nat) (x3 : Int32) (x4 : Int32) (h : kX8_findMiddle_44 σ k6 x0 x3 x4 = some Z) : GoC l G RX8 "findMiddle" cX8_findMiddle 5 (some .int) 2 45 n0 u0 (some (.int Z)) σ 44 [(0, G.rv x0), (3, .int x3), (4, .int x4)] [] σ := by
  unfold kX8_findMiddle_44 at h
  refine GoC.iload_n 1 dX8_findMiddle_44 rfl ?_
  refine GoC.istore_n [(0, G.rv x0), (1, .int x3), (3, .int x3), (4, .int x4)] dX8_findMiddle_45 (by decide) rfl ?_
  refine GoC.iload 3 dX8_findMiddle_46 rfl ?_
  refine GoC.istore_n [(0, G.rv x0), (1, .int x3), (2, .int x4), (3, .int x3), (4, .int x4)] dX8_findMiddle_48 (by decide) rfl ?_
  refine GoC.sub [0, 1, 2, 3] rfl ?_
  exact ksX8_findMiddle_49 _ h6 _ _ _ _ h
set_option maxRecDepth 20000 in
theorem ksX8_findMiddle_6 {l : Launch} {G : Gt} {n0 u0 : Nat} {σ : Hp} {Z : Int32} (n : Nat) : ∀ (x0 : Nat) (x1 : Int32) (x2 : Int32) (x3 : Int32), kX8_findMiddle_6 σ n x0 x1 x2 x3 = some Z → GoC l G RX8 "findMiddle" cX8_findMiddle 5 (some .int) 2 45 n0 u0 (some (.int Z)) σ 6 [(0, G.rv x0), (1, .int x1), (2, .int x2), (3, .int x3)] [] σ := by
  induction n with
  | zero => intro x0 x1 x2 x3 h; rw [kX8_findMiddle_6] at h; cases h
  | succ n ih =>
    intro x0 x1 x2 x3 h
    rw [kX8_findMiddle_6] at h
    refine GoC.iload_n 3 dX8_findMiddle_6 rfl ?_
    refine GoC.bipush 40 dX8_findMiddle_7 (by decide) ?_
    refine GoC.icmp_ge 55 dX8_findMiddle_9 (by decide) h (fun h => ?_) (fun h => ?_)
    · refine GoC.iload_n 1 dX8_findMiddle_55 rfl ?_
      cases h
      exact GoC.iret dX8_findMiddle_56 rfl
    · refine GC.aload_n 0 dX8_findMiddle_12 rfl ?_
      refine GC.getr 8 0 rfl (by decide) (by decide) fw_X8_24 (Or.inl rfl) dX8_findMiddle_13 h (fun v1 h => ?_)
      refine GoC.iload_n 3 dX8_findMiddle_16 rfl ?_
      obtain ⟨h0, h⟩ := ckd_some h
      obtain ⟨v2, hq, h⟩ := Option.bind_eq_some_iff.mp h
      refine GC.callvI (rest := []) 7 rfl h0 rfl [.int x3] dX8_findMiddle_17 kk_X8_42 km_X7_has.1 km_X7_has.2 (ktX7_has _ _ _ hq) rfl rfl (Nat.le_of_ble_eq_true rfl) (Nat.le_of_ble_eq_true rfl) trivial (Nat.le_of_ble_eq_true rfl) ?_
      refine GoC.if_ne 26 dX8_findMiddle_20 (by decide) h (fun h => ?_) (fun h => ?_)
      · refine GC.aload_n 0 dX8_findMiddle_26 rfl ?_
        refine GoC.iload_n 3 dX8_findMiddle_27 rfl ?_
        obtain ⟨h0, h⟩ := ckd_some h
        obtain ⟨v3, hq, h⟩ := Option.bind_eq_some_iff.mp h
        refine GC.callvI (rest := []) 8 rfl h0 rfl [.int x3] dX8_findMiddle_28 kk_X8_72 km_X8_sumFrom.1 km_X8_sumFrom.2 (ktX8_sumFrom _ _ _ hq) rfl rfl (Nat.le_of_ble_eq_true rfl) (Nat.le_of_ble_eq_true rfl) trivial (Nat.le_of_ble_eq_true rfl) ?_
        refine GoC.istore [(0, G.rv x0), (1, .int x1), (2, .int x2), (3, .int x3), (4, .int v3)] dX8_findMiddle_31 (by decide) rfl ?_
        refine GoC.iload_n 1 dX8_findMiddle_33 rfl ?_
        refine GoC.iconst (-1) dX8_findMiddle_34 (by decide) ?_
        refine GoC.icmp_eq 44 dX8_findMiddle_35 (by decide) h (fun h => ?_) (fun h => ?_)
        · refine GoC.sub [0, 3, 4] rfl ?_
          exact ksX8_findMiddle_44 _ ih _ _ _ h
        · refine GoC.iload 4 dX8_findMiddle_38 rfl ?_
          refine GoC.iload_n 2 dX8_findMiddle_40 rfl ?_
          refine GoC.icmp_ge 49 dX8_findMiddle_41 (by decide) h (fun h => ?_) (fun h => ?_)
          · refine GoC.sub [0, 1, 2, 3] rfl ?_
            exact ksX8_findMiddle_49 _ ih _ _ _ _ h
          · refine GoC.sub [0, 3, 4] rfl ?_
            exact ksX8_findMiddle_44 _ ih _ _ _ h
      · refine GoC.goto 49 dX8_findMiddle_23 (by decide) ?_
        exact ksX8_findMiddle_49 _ ih _ _ _ _ h
set_option maxRecDepth 20000 in
theorem ksX8_findMiddle {l : Launch} {G : Gt} {n0 u0 : Nat} {σ : Hp} {Z : Int32} (x0 : Nat) (h : kX8_findMiddle σ x0 = some Z) : GoC l G RX8 "findMiddle" cX8_findMiddle 5 (some .int) 2 45 n0 u0 (some (.int Z)) σ 0 [(0, G.rv x0)] [] σ := by
  unfold kX8_findMiddle at h
  refine GoC.iconst (-1) dX8_findMiddle_0 (by decide) ?_
  refine GoC.istore_n [(0, G.rv x0), (1, .int (-1))] dX8_findMiddle_1 (by decide) rfl ?_
  refine GoC.iconst 0 dX8_findMiddle_2 (by decide) ?_
  refine GoC.istore_n [(0, G.rv x0), (1, .int (-1)), (2, .int 0)] dX8_findMiddle_3 (by decide) rfl ?_
  refine GoC.iconst 0 dX8_findMiddle_4 (by decide) ?_
  refine GoC.istore_n [(0, G.rv x0), (1, .int (-1)), (2, .int 0), (3, .int 0)] dX8_findMiddle_5 (by decide) rfl ?_
  exact ksX8_findMiddle_6 _ _ _ _ _ h
set_option maxRecDepth 20000 in
theorem ktX8_findMiddle {l : Launch} {G : Gt} {σ : Hp} (x0 : Nat) : ∀ Z, kX8_findMiddle σ x0 = some Z → MtC l G yX8_findMiddle cX8_findMiddle 5 (some .int) 2 45 [G.rv x0] σ (some (.int Z)) σ := fun Z h => MtC.at (by decide +kernel) ⟨G.rv_cat _, trivial⟩ (Nat.le_of_ble_eq_true rfl) (ksX8_findMiddle x0 h)
/-! X8_pivotAfter -/
def kX8_pivotAfter_94 (k4 : Nat → Int32 → Int32 → Int32 → Hp → Option (Int32 × Hp)) (x0 : Nat) (x1 : Int32) (x2 : Int32) (x3 : Int32) (σ : Hp) : Option (Int32 × Hp) := k4 x0 x1 x2 (x3 + 1) σ
def kX8_pivotAfter_92 (k4 : Nat → Int32 → Int32 → Int32 → Hp → Option (Int32 × Hp)) (x0 : Nat) (x1 : Int32) (x3 : Int32) (σ : Hp) : Option (Int32 × Hp) := kX8_pivotAfter_94 k4 x0 x1 x3 x3 σ
def kX8_pivotAfter_71 (k4 : Nat → Int32 → Int32 → Int32 → Hp → Option (Int32 × Hp)) (x0 : Nat) (x1 : Int32) (x2 : Int32) (x3 : Int32) (y0 : Nat) (y1 : Int32) (y2 : Int32) (σ : Hp) : Option (Int32 × Hp) := (ast σ 1 y0 y1 y2).bind (fun σ1 => if x2 = (-1) then kX8_pivotAfter_92 k4 x0 x1 x3 σ1 else (gfr σ1 18 807 x0).bind (fun v2 => (ald σ1 1 v2 x3).bind (fun v3 => (gfr σ1 18 807 x0).bind (fun v4 => (ald σ1 1 v4 x2).bind (fun v5 => if v3 ≤ v5 then kX8_pivotAfter_94 k4 x0 x1 x2 x3 σ1 else kX8_pivotAfter_92 k4 x0 x1 x3 σ1)))))
def kX8_pivotAfter_4  : Nat → Nat → Int32 → Int32 → Int32 → Hp → Option (Int32 × Hp)
  | 0, _, _, _, _, _ => none
  | n + 1, x0, x1, x2, x3, σ => if 40 ≤ x3 then some (x2, σ) else (gfr σ 18 800 x0).bind (fun v6 => ckd σ v6 17 ((kX7_has σ v6 x3).bind (fun v7 => if v7 = 0 then kX8_pivotAfter_94 (kX8_pivotAfter_4 n) x0 x1 x2 x3 σ else (gfr σ 18 808 x0).bind (fun v8 => (ald σ 1 v8 x3).bind (fun v9 => if v9 = 0 then (gfr σ 18 801 x0).bind (fun v10 => ckd σ v10 11 ((kX1_of σ v10 x1 x3).bind (fun v11 => (gfr σ 18 807 x0).bind (fun v12 => (gfr σ 18 807 x0).bind (fun v13 => (ald σ 1 v13 x3).bind (fun v14 => if v14 ≤ v11 then (gfr σ 18 807 x0).bind (fun v15 => (ald σ 1 v15 x3).bind (fun v16 => kX8_pivotAfter_71 (kX8_pivotAfter_4 n) x0 x1 x2 x3 v12 x3 v16 σ)) else kX8_pivotAfter_71 (kX8_pivotAfter_4 n) x0 x1 x2 x3 v12 x3 v11 σ)))))) else kX8_pivotAfter_94 (kX8_pivotAfter_4 n) x0 x1 x2 x3 σ)))))
def kX8_pivotAfter (σ : Hp) (x0 : Nat) (x1 : Int32) : Option (Int32 × Hp) := kX8_pivotAfter_4 FU x0 x1 (-1) 0 σ
set_option maxRecDepth 20000 in
theorem ksX8_pivotAfter_94 {l : Launch} {G : Gt} {n0 u0 : Nat} {Z : Int32 × Hp} (k4 : Nat → Int32 → Int32 → Int32 → Hp → Option (Int32 × Hp)) (h4 : ∀ (x0 : Nat) (x1 : Int32) (x2 : Int32) (x3 : Int32) (σ : Hp), k4 x0 x1 x2 x3 σ = some Z → GoC l G RX8 "pivotAfter" cX8_pivotAfter 5 (some .int) 1 22 n0 u0 (some (.int Z.1)) Z.2 4 [(0, G.rv x0), (1, .int x1), (2, .int x2), (3, .int x3)] [] σ) (x0 : Nat) (x1 : Int32) (x2 : Int32) (x3 : Int32) (σ : Hp) (h : kX8_pivotAfter_94 k4 x0 x1 x2 x3 σ = some Z) : GoC l G RX8 "pivotAfter" cX8_pivotAfter 5 (some .int) 1 22 n0 u0 (some (.int Z.1)) Z.2 94 [(0, G.rv x0), (1, .int x1), (2, .int x2), (3, .int x3)] [] σ := by
  unfold kX8_pivotAfter_94 at h
  refine GoC.iinc (w := 1) 3 [(0, G.rv x0), (1, .int x1), (2, .int x2), (3, .int (x3 + 1))] dX8_pivotAfter_94 rfl (by decide) (by decide) rfl ?_
  refine GoC.goto 4 dX8_pivotAfter_97 (by decide) ?_
  exact h4 _ _ _ _ _ h
set_option maxRecDepth 20000 in
theorem ksX8_pivotAfter_92 {l : Launch} {G : Gt} {n0 u0 : Nat} {Z : Int32 × Hp} (k4 : Nat → Int32 → Int32 → Int32 → Hp → Option (Int32 × Hp)) (h4 : ∀ (x0 : Nat) (x1 : Int32) (x2 : Int32) (x3 : Int32) (σ : Hp), k4 x0 x1 x2 x3 σ = some Z → GoC l G RX8 "pivotAfter" cX8_pivotAfter 5 (some .int) 1 22 n0 u0 (some (.int Z.1)) Z.2 4 [(0, G.rv x0), (1, .int x1), (2, .int x2), (3, .int x3)] [] σ) (x0 : Nat) (x1 : Int32) (x3 : Int32) (σ : Hp) (h : kX8_pivotAfter_92 k4 x0 x1 x3 σ = some Z) : GoC l G RX8 "pivotAfter" cX8_pivotAfter 5 (some .int) 1 22 n0 u0 (some (.int Z.1)) Z.2 92 [(0, G.rv x0), (1, .int x1), (3, .int x3)] [] σ := by
  unfold kX8_pivotAfter_92 at h
  refine GoC.iload_n 2 dX8_pivotAfter_92 rfl ?_
  refine GoC.istore_n [(0, G.rv x0), (1, .int x1), (2, .int x3), (3, .int x3)] dX8_pivotAfter_93 (by decide) rfl ?_
  exact ksX8_pivotAfter_94 _ h4 _ _ _ _ _ h
set_option maxRecDepth 20000 in
theorem ksX8_pivotAfter_71 {l : Launch} {G : Gt} {n0 u0 : Nat} {Z : Int32 × Hp} (k4 : Nat → Int32 → Int32 → Int32 → Hp → Option (Int32 × Hp)) (h4 : ∀ (x0 : Nat) (x1 : Int32) (x2 : Int32) (x3 : Int32) (σ : Hp), k4 x0 x1 x2 x3 σ = some Z → GoC l G RX8 "pivotAfter" cX8_pivotAfter 5 (some .int) 1 22 n0 u0 (some (.int Z.1)) Z.2 4 [(0, G.rv x0), (1, .int x1), (2, .int x2), (3, .int x3)] [] σ) (x0 : Nat) (x1 : Int32) (x2 : Int32) (x3 : Int32) (y0 : Nat) (y1 : Int32) (y2 : Int32) (σ : Hp) (h : kX8_pivotAfter_71 k4 x0 x1 x2 x3 y0 y1 y2 σ = some Z) : GoC l G RX8 "pivotAfter" cX8_pivotAfter 5 (some .int) 1 22 n0 u0 (some (.int Z.1)) Z.2 71 [(0, G.rv x0), (1, .int x1), (2, .int x2), (3, .int x3)] [.int y2, .int y1, G.rv y0] σ := by
  unfold kX8_pivotAfter_71 at h
  refine GC.iast dX8_pivotAfter_71 h (fun σ1 h => ?_)
  refine GoC.iload_n 2 dX8_pivotAfter_72 rfl ?_
  refine GoC.iconst (-1) dX8_pivotAfter_73 (by decide) ?_
  refine GoC.icmp_eq 92 dX8_pivotAfter_74 (by decide) h (fun h => ?_) (fun h => ?_)
  · refine GoC.sub [0, 1, 3] rfl ?_
    exact ksX8_pivotAfter_92 _ h4 _ _ _ _ h
  · refine GC.aload_n 0 dX8_pivotAfter_77 rfl ?_
    refine GC.getr 8 7 rfl (by decide) (by decide) fw_X8_18 (Or.inl rfl) dX8_pivotAfter_78 h (fun v2 h => ?_)
    refine GoC.iload_n 3 dX8_pivotAfter_81 rfl ?_
    refine GC.iald dX8_pivotAfter_82 h (fun v3 h => ?_)
    refine GC.aload_n 0 dX8_pivotAfter_83 rfl ?_
    refine GC.getr 8 7 rfl (by decide) (by decide) fw_X8_18 (Or.inl rfl) dX8_pivotAfter_84 h (fun v4 h => ?_)
    refine GoC.iload_n 2 dX8_pivotAfter_87 rfl ?_
    refine GC.iald dX8_pivotAfter_88 h (fun v5 h => ?_)
    refine GoC.icmp_le 94 dX8_pivotAfter_89 (by decide) h (fun h => ?_) (fun h => ?_)
    · exact ksX8_pivotAfter_94 _ h4 _ _ _ _ _ h
    · refine GoC.sub [0, 1, 3] rfl ?_
      exact ksX8_pivotAfter_92 _ h4 _ _ _ _ h
set_option maxRecDepth 20000 in
theorem ksX8_pivotAfter_4 {l : Launch} {G : Gt} {n0 u0 : Nat} {Z : Int32 × Hp} (n : Nat) : ∀ (x0 : Nat) (x1 : Int32) (x2 : Int32) (x3 : Int32) (σ : Hp), kX8_pivotAfter_4 n x0 x1 x2 x3 σ = some Z → GoC l G RX8 "pivotAfter" cX8_pivotAfter 5 (some .int) 1 22 n0 u0 (some (.int Z.1)) Z.2 4 [(0, G.rv x0), (1, .int x1), (2, .int x2), (3, .int x3)] [] σ := by
  induction n with
  | zero => intro x0 x1 x2 x3 σ h; rw [kX8_pivotAfter_4] at h; cases h
  | succ n ih =>
    intro x0 x1 x2 x3 σ h
    rw [kX8_pivotAfter_4] at h
    refine GoC.iload_n 3 dX8_pivotAfter_4 rfl ?_
    refine GoC.bipush 40 dX8_pivotAfter_5 (by decide) ?_
    refine GoC.icmp_ge 100 dX8_pivotAfter_7 (by decide) h (fun h => ?_) (fun h => ?_)
    · refine GoC.iload_n 2 dX8_pivotAfter_100 rfl ?_
      cases h
      exact GoC.iret dX8_pivotAfter_101 rfl
    · refine GC.aload_n 0 dX8_pivotAfter_10 rfl ?_
      refine GC.getr 8 0 rfl (by decide) (by decide) fw_X8_24 (Or.inl rfl) dX8_pivotAfter_11 h (fun v6 h => ?_)
      refine GoC.iload_n 3 dX8_pivotAfter_14 rfl ?_
      obtain ⟨h0, h⟩ := ckd_some h
      obtain ⟨v7, hq, h⟩ := Option.bind_eq_some_iff.mp h
      refine GC.callvI (rest := []) 7 rfl h0 rfl [.int x3] dX8_pivotAfter_15 kk_X8_42 km_X7_has.1 km_X7_has.2 (ktX7_has _ _ _ hq) rfl rfl (Nat.le_of_ble_eq_true rfl) (Nat.le_of_ble_eq_true rfl) trivial (Nat.le_of_ble_eq_true rfl) ?_
      refine GoC.if_eq 94 dX8_pivotAfter_18 (by decide) h (fun h => ?_) (fun h => ?_)
      · exact ksX8_pivotAfter_94 _ ih _ _ _ _ _ h
      · refine GC.aload_n 0 dX8_pivotAfter_21 rfl ?_
        refine GC.getr 8 8 rfl (by decide) (by decide) fw_X8_21 (Or.inl rfl) dX8_pivotAfter_22 h (fun v8 h => ?_)
        refine GoC.iload_n 3 dX8_pivotAfter_25 rfl ?_
        refine GC.iald dX8_pivotAfter_26 h (fun v9 h => ?_)
        refine GoC.if_eq 33 dX8_pivotAfter_27 (by decide) h (fun h => ?_) (fun h => ?_)
        · refine GC.aload_n 0 dX8_pivotAfter_33 rfl ?_
          refine GC.getr 8 1 rfl (by decide) (by decide) fw_X8_28 (Or.inl rfl) dX8_pivotAfter_34 h (fun v10 h => ?_)
          refine GoC.iload_n 1 dX8_pivotAfter_37 rfl ?_
          refine GoC.iload_n 3 dX8_pivotAfter_38 rfl ?_
          obtain ⟨h0, h⟩ := ckd_some h
          obtain ⟨v11, hq, h⟩ := Option.bind_eq_some_iff.mp h
          refine GC.callvI (rest := []) 1 rfl h0 rfl [.int x1, .int x3] dX8_pivotAfter_39 kk_X8_52 km_X1_of.1 km_X1_of.2 (ktX1_of _ _ _ _ hq) rfl rfl (Nat.le_of_ble_eq_true rfl) (Nat.le_of_ble_eq_true rfl) trivial (Nat.le_of_ble_eq_true rfl) ?_
          refine GoC.istore [(0, G.rv x0), (1, .int x1), (2, .int x2), (3, .int x3), (4, .int v11)] dX8_pivotAfter_42 (by decide) rfl ?_
          refine GC.aload_n 0 dX8_pivotAfter_44 rfl ?_
          refine GC.getr 8 7 rfl (by decide) (by decide) fw_X8_18 (Or.inl rfl) dX8_pivotAfter_45 h (fun v12 h => ?_)
          refine GoC.iload_n 3 dX8_pivotAfter_48 rfl ?_
          refine GoC.iload 4 dX8_pivotAfter_49 rfl ?_
          refine GC.aload_n 0 dX8_pivotAfter_51 rfl ?_
          refine GC.getr 8 7 rfl (by decide) (by decide) fw_X8_18 (Or.inl rfl) dX8_pivotAfter_52 h (fun v13 h => ?_)
          refine GoC.iload_n 3 dX8_pivotAfter_55 rfl ?_
          refine GC.iald dX8_pivotAfter_56 h (fun v14 h => ?_)
          refine GoC.icmp_ge 65 dX8_pivotAfter_57 (by decide) h (fun h => ?_) (fun h => ?_)
          · refine GC.aload_n 0 dX8_pivotAfter_65 rfl ?_
            refine GC.getr 8 7 rfl (by decide) (by decide) fw_X8_18 (Or.inl rfl) dX8_pivotAfter_66 h (fun v15 h => ?_)
            refine GoC.iload_n 3 dX8_pivotAfter_69 rfl ?_
            refine GC.iald dX8_pivotAfter_70 h (fun v16 h => ?_)
            refine GoC.sub [0, 1, 2, 3] rfl ?_
            exact ksX8_pivotAfter_71 _ ih _ _ _ _ _ _ _ _ h
          · refine GoC.iload 4 dX8_pivotAfter_60 rfl ?_
            refine GoC.goto 71 dX8_pivotAfter_62 (by decide) ?_
            refine GoC.sub [0, 1, 2, 3] rfl ?_
            exact ksX8_pivotAfter_71 _ ih _ _ _ _ _ _ _ _ h
        · refine GoC.goto 94 dX8_pivotAfter_30 (by decide) ?_
          exact ksX8_pivotAfter_94 _ ih _ _ _ _ _ h
set_option maxRecDepth 20000 in
theorem ksX8_pivotAfter {l : Launch} {G : Gt} {n0 u0 : Nat} {σ : Hp} {Z : Int32 × Hp} (x0 : Nat) (x1 : Int32) (h : kX8_pivotAfter σ x0 x1 = some Z) : GoC l G RX8 "pivotAfter" cX8_pivotAfter 5 (some .int) 1 22 n0 u0 (some (.int Z.1)) Z.2 0 [(0, G.rv x0), (1, .int x1)] [] σ := by
  unfold kX8_pivotAfter at h
  refine GoC.iconst (-1) dX8_pivotAfter_0 (by decide) ?_
  refine GoC.istore_n [(0, G.rv x0), (1, .int x1), (2, .int (-1))] dX8_pivotAfter_1 (by decide) rfl ?_
  refine GoC.iconst 0 dX8_pivotAfter_2 (by decide) ?_
  refine GoC.istore_n [(0, G.rv x0), (1, .int x1), (2, .int (-1)), (3, .int 0)] dX8_pivotAfter_3 (by decide) rfl ?_
  exact ksX8_pivotAfter_4 _ _ _ _ _ _ h
set_option maxRecDepth 20000 in
theorem ktX8_pivotAfter {l : Launch} {G : Gt} {σ : Hp} (x0 : Nat) (x1 : Int32) : ∀ Z, kX8_pivotAfter σ x0 x1 = some Z → MtC l G yX8_pivotAfter cX8_pivotAfter 5 (some .int) 1 22 [G.rv x0, .int x1] σ (some (.int Z.1)) Z.2 := fun Z h => MtC.at (by decide +kernel) ⟨G.rv_cat _, rfl, trivial⟩ (Nat.le_of_ble_eq_true rfl) (ksX8_pivotAfter x0 x1 h)
/-! X8_pivotAt -/
def kX8_pivotAt_24  : Nat → Nat → Int32 → Int32 → Int32 → Hp → Option (Int32 × Hp)
  | 0, _, _, _, _, _ => none
  | n + 1, x0, x1, x2, x3, σ => if x1 ≤ x3 then some (x2, σ) else if 40 ≤ x3 then some (x2, σ) else if x2 = (-1) then some (x2, σ) else (gfr σ 18 808 x0).bind (fun v1 => (ast σ 1 v1 x2 1).bind (fun σ2 => ckd σ2 x0 18 (bd2 (kX8_pivotAfter σ2 x0 x2) (fun v3 σ4 => kX8_pivotAt_24 n x0 x1 v3 (x3 + 1) σ4))))
def kX8_pivotAt (σ : Hp) (x0 : Nat) (x1 : Int32) : Option (Int32 × Hp) := (gfr σ 18 808 x0).bind (fun v5 => (kJ7_fill_53178 σ v5 0).bind (fun σ6 => (gfr σ6 18 807 x0).bind (fun v7 => (kJ7_fill_53178 σ6 v7 99).bind (fun σ8 => ckd σ8 x0 18 ((kX8_findMiddle σ8 x0).bind (fun v9 => kX8_pivotAt_24 FU x0 x1 v9 0 σ8))))))
set_option maxRecDepth 20000 in
theorem ksX8_pivotAt_24 {l : Launch} {G : Gt} {n0 u0 : Nat} {Z : Int32 × Hp} (n : Nat) : ∀ (x0 : Nat) (x1 : Int32) (x2 : Int32) (x3 : Int32) (σ : Hp), kX8_pivotAt_24 n x0 x1 x2 x3 σ = some Z → GoC l G RX8 "pivotAt" cX8_pivotAt 4 (some .int) 3 69 n0 u0 (some (.int Z.1)) Z.2 24 [(0, G.rv x0), (1, .int x1), (2, .int x2), (3, .int x3)] [] σ := by
  induction n with
  | zero => intro x0 x1 x2 x3 σ h; rw [kX8_pivotAt_24] at h; cases h
  | succ n ih =>
    intro x0 x1 x2 x3 σ h
    rw [kX8_pivotAt_24] at h
    refine GoC.iload_n 3 dX8_pivotAt_24 rfl ?_
    refine GoC.iload_n 1 dX8_pivotAt_25 rfl ?_
    refine GoC.icmp_ge 59 dX8_pivotAt_26 (by decide) h (fun h => ?_) (fun h => ?_)
    · refine GoC.iload_n 2 dX8_pivotAt_59 rfl ?_
      cases h
      exact GoC.iret dX8_pivotAt_60 rfl
    · refine GoC.iload_n 3 dX8_pivotAt_29 rfl ?_
      refine GoC.bipush 40 dX8_pivotAt_30 (by decide) ?_
      refine GoC.icmp_ge 59 dX8_pivotAt_32 (by decide) h (fun h => ?_) (fun h => ?_)
      · refine GoC.iload_n 2 dX8_pivotAt_59 rfl ?_
        cases h
        exact GoC.iret dX8_pivotAt_60 rfl
      · refine GoC.iload_n 2 dX8_pivotAt_35 rfl ?_
        refine GoC.iconst (-1) dX8_pivotAt_36 (by decide) ?_
        refine GoC.icmp_eq 59 dX8_pivotAt_37 (by decide) h (fun h => ?_) (fun h => ?_)
        · refine GoC.iload_n 2 dX8_pivotAt_59 rfl ?_
          cases h
          exact GoC.iret dX8_pivotAt_60 rfl
        · refine GC.aload_n 0 dX8_pivotAt_40 rfl ?_
          refine GC.getr 8 8 rfl (by decide) (by decide) fw_X8_21 (Or.inl rfl) dX8_pivotAt_41 h (fun v1 h => ?_)
          refine GoC.iload_n 2 dX8_pivotAt_44 rfl ?_
          refine GoC.iconst 1 dX8_pivotAt_45 (by decide) ?_
          refine GC.iast dX8_pivotAt_46 h (fun σ2 h => ?_)
          refine GC.aload_n 0 dX8_pivotAt_47 rfl ?_
          refine GoC.iload_n 2 dX8_pivotAt_48 rfl ?_
          obtain ⟨h0, h⟩ := ckd_some h
          obtain ⟨v3, σ4, hq, h⟩ := bd2_some h
          refine GC.callvI (rest := []) 8 rfl h0 rfl [.int x2] dX8_pivotAt_49 kk_X8_85 km_X8_pivotAfter.1 km_X8_pivotAfter.2 (ktX8_pivotAfter _ _ _ hq) rfl rfl (Nat.le_of_ble_eq_true rfl) (Nat.le_of_ble_eq_true rfl) trivial (Nat.le_of_ble_eq_true rfl) ?_
          refine GoC.istore_n [(0, G.rv x0), (1, .int x1), (2, .int v3), (3, .int x3)] dX8_pivotAt_52 (by decide) rfl ?_
          refine GoC.iinc (w := 1) 3 [(0, G.rv x0), (1, .int x1), (2, .int v3), (3, .int (x3 + 1))] dX8_pivotAt_53 rfl (by decide) (by decide) rfl ?_
          refine GoC.goto 24 dX8_pivotAt_56 (by decide) ?_
          exact ih _ _ _ _ _ h
set_option maxRecDepth 20000 in
theorem ksX8_pivotAt {l : Launch} {G : Gt} {n0 u0 : Nat} {σ : Hp} {Z : Int32 × Hp} (x0 : Nat) (x1 : Int32) (h : kX8_pivotAt σ x0 x1 = some Z) : GoC l G RX8 "pivotAt" cX8_pivotAt 4 (some .int) 3 69 n0 u0 (some (.int Z.1)) Z.2 0 [(0, G.rv x0), (1, .int x1)] [] σ := by
  unfold kX8_pivotAt at h
  refine GC.aload_n 0 dX8_pivotAt_0 rfl ?_
  refine GC.getr 8 8 rfl (by decide) (by decide) fw_X8_21 (Or.inl rfl) dX8_pivotAt_1 h (fun v5 h => ?_)
  refine GoC.iconst 0 dX8_pivotAt_4 (by decide) ?_
  obtain ⟨σ6, hq, h⟩ := Option.bind_eq_some_iff.mp h
  refine GC.callsV (rest := []) [G.rv v5, .int 0] dX8_pivotAt_5 kk_X8_75 km_J7_fill_53178 (ktJ7_fill_53178 _ _ _ hq) rfl rfl (Nat.le_of_ble_eq_true rfl) (Nat.le_of_ble_eq_true rfl) trivial (Nat.le_of_ble_eq_true rfl) ?_
  refine GC.aload_n 0 dX8_pivotAt_8 rfl ?_
  refine GC.getr 8 7 rfl (by decide) (by decide) fw_X8_18 (Or.inl rfl) dX8_pivotAt_9 h (fun v7 h => ?_)
  refine GoC.bipush 99 dX8_pivotAt_12 (by decide) ?_
  obtain ⟨σ8, hq, h⟩ := Option.bind_eq_some_iff.mp h
  refine GC.callsV (rest := []) [G.rv v7, .int 99] dX8_pivotAt_14 kk_X8_75 km_J7_fill_53178 (ktJ7_fill_53178 _ _ _ hq) rfl rfl (Nat.le_of_ble_eq_true rfl) (Nat.le_of_ble_eq_true rfl) trivial (Nat.le_of_ble_eq_true rfl) ?_
  refine GC.aload_n 0 dX8_pivotAt_17 rfl ?_
  obtain ⟨h0, h⟩ := ckd_some h
  obtain ⟨v9, hq, h⟩ := Option.bind_eq_some_iff.mp h
  refine GC.callvI (rest := []) 8 rfl h0 rfl [] dX8_pivotAt_18 kk_X8_81 km_X8_findMiddle.1 km_X8_findMiddle.2 (ktX8_findMiddle _ _ hq) rfl rfl (Nat.le_of_ble_eq_true rfl) (Nat.le_of_ble_eq_true rfl) trivial (Nat.le_of_ble_eq_true rfl) ?_
  refine GoC.istore_n [(0, G.rv x0), (1, .int x1), (2, .int v9)] dX8_pivotAt_21 (by decide) rfl ?_
  refine GoC.iconst 0 dX8_pivotAt_22 (by decide) ?_
  refine GoC.istore_n [(0, G.rv x0), (1, .int x1), (2, .int v9), (3, .int 0)] dX8_pivotAt_23 (by decide) rfl ?_
  exact ksX8_pivotAt_24 _ _ _ _ _ _ h
set_option maxRecDepth 20000 in
theorem ktX8_pivotAt {l : Launch} {G : Gt} {σ : Hp} (x0 : Nat) (x1 : Int32) : ∀ Z, kX8_pivotAt σ x0 x1 = some Z → MtC l G yX8_pivotAt cX8_pivotAt 4 (some .int) 3 69 [G.rv x0, .int x1] σ (some (.int Z.1)) Z.2 := fun Z h => MtC.at (by decide +kernel) ⟨G.rv_cat _, rfl, trivial⟩ (Nat.le_of_ble_eq_true rfl) (ksX8_pivotAt x0 x1 h)
