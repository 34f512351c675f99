/-! X11_act -/
def kX11_act_263  (x0 : Nat) (x2 : Int32) (σ : Hp) : Option (Hp) := (gfr σ 21 1109 x0).bind (fun v1 => (kX11_isCap σ x2).bind (fun v2 => ckd σ v1 15 ((kX5_addOk σ v1 v2).bind (fun σ3 => some σ3))))
def kX11_act_191  (x0 : Nat) (y0 : Nat) (y1 : Int32) (σ : Hp) : Option (Hp) := (gfr σ 21 1105 x0).bind (fun v4 => (gfr σ 16 612 v4).bind (fun v5 => ckd σ y0 15 ((kX5_addNumbers σ y0 y1 v5).bind (fun σ6 => some σ6))))
def kX11_act_152  (x0 : Nat) (y0 : Nat) (y1 : Int32) (σ : Hp) : Option (Hp) := (gfr σ 21 1105 x0).bind (fun v7 => (gfr σ 16 612 v7).bind (fun v8 => ckd σ y0 15 ((kX5_addNumbers σ y0 y1 v8).bind (fun σ9 => some σ9))))
def kX11_act_114  (x0 : Nat) (x4 : Int32) (σ : Hp) : Option (Hp) := (gfr σ 21 1109 x0).bind (fun v10 => ckd σ v10 15 ((kX5_addNumberOrNo σ v10 x4).bind (fun σ11 => some σ11)))
def kX11_act_76  (y0 : Nat) (y1 : Int32) (σ : Hp) : Option (Hp) := ckd σ y0 15 ((kX5_addNumberOrNo σ y0 y1).bind (fun σ12 => some σ12))
def kX11_act (σ : Hp) (x0 : Nat) (x1 : Int32) (x2 : Int32) (x3 : Int32) : Option (Hp) := if x1 = 0 then (gfr σ 21 1109 x0).bind (fun v13 => ckd σ x0 21 ((kX11_canAdd σ x0 x2).bind (fun v14 => if v14 = 0 then kX11_act_76 v13 (-1) σ else (gfr σ 21 1100 x0).bind (fun v15 => ckd σ v15 17 ((kX7_freeNumber σ v15).bind (fun v16 => ckd σ x0 21 (bd2 (kX11_bringIn σ x0 v16 x2) (fun v17 σ18 => kX11_act_76 v13 v17 σ18)))))))) else if x1 = 1 then (gfr σ 21 1100 x0).bind (fun v19 => ckd σ v19 17 ((kX7_numberOf σ v19 x2).bind (fun v20 => if v20 = (-1) then kX11_act_114 x0 v20 σ else ckd σ x0 21 (bd2 (kX11_takeOut σ x0 v20) (fun v21 σ22 => if v21 = 0 then kX11_act_114 x0 v20 σ22 else (gfr σ22 21 1103 x0).bind (fun v23 => ckd σ22 v23 19 ((kX9_buildAnew σ22 v23).bind (fun σ24 => kX11_act_114 x0 v20 σ24)))))))) else if x1 = 2 then (gfr σ 21 1109 x0).bind (fun v25 => (kX11_isHowMany σ x3).bind (fun v26 => if v26 = 0 then kX11_act_152 x0 v25 (-1) σ else (gfr σ 21 1105 x0).bind (fun v27 => ckd σ v27 16 (bd2 (kX6_run σ v27 1 x2 (-1) x3) (fun v28 σ29 => kX11_act_152 x0 v25 v28 σ29))))) else if x1 = 3 then (gfr σ 21 1109 x0).bind (fun v30 => (kX11_isFar σ x3).bind (fun v31 => if v31 = 0 then kX11_act_191 x0 v30 (-1) σ else (gfr σ 21 1105 x0).bind (fun v32 => ckd σ v32 16 (bd2 (kX6_run σ v32 0 x2 (-1) x3) (fun v33 σ34 => kX11_act_191 x0 v30 v33 σ34))))) else if x1 = 4 then (gfr σ 21 1100 x0).bind (fun v35 => (pfi σ 17 706 v35 x2).bind (fun σ36 => (gfr σ36 21 1102 x0).bind (fun v37 => (gfr σ36 21 1100 x0).bind (fun v38 => ckd σ36 v37 11 ((kX1_follow σ36 v37 v38).bind (fun σ39 => (gfr σ39 21 1103 x0).bind (fun v40 => ckd σ39 v40 19 ((kX9_buildAnew σ39 v40).bind (fun σ41 => (gfr σ41 21 1109 x0).bind (fun v42 => ckd σ41 v42 15 ((kX5_addOk σ41 v42 1).bind (fun σ43 => some σ43)))))))))))) else if x1 = 5 then (kX11_isCap σ x2).bind (fun v44 => if v44 = 0 then kX11_act_263 x0 x2 σ else (gfr σ 21 1100 x0).bind (fun v45 => (pfi σ 17 707 v45 x2).bind (fun σ46 => (gfr σ46 21 1103 x0).bind (fun v47 => ckd σ46 v47 19 ((kX9_buildAnew σ46 v47).bind (fun σ48 => kX11_act_263 x0 x2 σ48)))))) else if x1 = 6 then (gfr σ 21 1109 x0).bind (fun v49 => (gfr σ 21 1101 x0).bind (fun v50 => (gfr σ 21 1100 x0).bind (fun v51 => (gfi σ 17 706 v51).bind (fun v52 => ckd σ v50 12 (bd2 (kX2_between σ v50 v52 x2 x3) (fun v53 σ54 => ckd σ54 v49 15 ((kX5_addNumber σ54 v49 v53).bind (fun σ55 => some σ55)))))))) else if x1 = 7 then (gfr σ 21 1109 x0).bind (fun v56 => (gfr σ 21 1100 x0).bind (fun v57 => (gfi σ 17 701 v57).bind (fun v58 => ckd σ v56 15 ((kX5_addNumber σ v56 v58).bind (fun σ59 => some σ59))))) else some σ
set_option maxRecDepth 20000 in
theorem ksX11_act_263 {l : Launch} {G : Gt} {n0 u0 : Nat} {Z : Hp} (x0 : Nat) (x2 : Int32) (σ : Hp) (h : kX11_act_263 x0 x2 σ = some Z) : GoC l G RX11 "act" cX11_act 5 none 11 277 n0 u0 none Z 263 [(0, G.rv x0), (2, .int x2)] [] σ := by
  unfold kX11_act_263 at h
  refine GC.aload_n 0 dX11_act_263 rfl ?_
  refine GC.getr 11 9 rfl (by decide) (by decide) fw_X11_81 (Or.inl rfl) dX11_act_264 h (fun v1 h => ?_)
  refine GoC.iload_n 1 dX11_act_267 rfl ?_
  obtain ⟨v2, hq, h⟩ := Option.bind_eq_some_iff.mp h
  refine GC.callsI (rest := [G.rv v1]) [.int x2] dX11_act_268 kk_X11_117 km_X11_isCap (ktX11_isCap _ _ hq) rfl rfl (Nat.le_of_ble_eq_true rfl) (Nat.le_of_ble_eq_true rfl) ⟨G.rv_cat _, trivial⟩ (Nat.le_of_ble_eq_true rfl) ?_
  obtain ⟨h0, h⟩ := ckd_some h
  obtain ⟨σ3, hq, h⟩ := Option.bind_eq_some_iff.mp h
  refine GC.callvV (rest := []) 5 rfl h0 rfl [.int v2] dX11_act_271 kk_X11_380 km_X5_addOk.1 km_X5_addOk.2 (ktX5_addOk _ _ _ hq) rfl rfl (Nat.le_of_ble_eq_true rfl) (Nat.le_of_ble_eq_true rfl) trivial (Nat.le_of_ble_eq_true rfl) ?_
  refine GoC.goto 320 dX11_act_274 (by decide) ?_
  cases h
  exact GoC.vret dX11_act_320 rfl
set_option maxRecDepth 20000 in
theorem ksX11_act_191 {l : Launch} {G : Gt} {n0 u0 : Nat} {Z : Hp} (x0 : Nat) (y0 : Nat) (y1 : Int32) (σ : Hp) (h : kX11_act_191 x0 y0 y1 σ = some Z) : GoC l G RX11 "act" cX11_act 5 none 11 277 n0 u0 none Z 191 [(0, G.rv x0)] [.int y1, G.rv y0] σ := by
  unfold kX11_act_191 at h
  refine GC.aload_n 0 dX11_act_191 rfl ?_
  refine GC.getr 11 5 rfl (by decide) (by decide) fw_X11_53 (Or.inl rfl) dX11_act_192 h (fun v4 h => ?_)
  refine GC.getr 6 12 rfl (by decide) (by decide) fw_X11_373 (Or.inl rfl) dX11_act_195 h (fun v5 h => ?_)
  obtain ⟨h0, h⟩ := ckd_some h
  obtain ⟨σ6, hq, h⟩ := Option.bind_eq_some_iff.mp h
  refine GC.callvV (rest := []) 5 rfl h0 rfl [.int y1, G.rv v5] dX11_act_198 kk_X11_376 km_X5_addNumbers.1 km_X5_addNumbers.2 (ktX5_addNumbers _ _ _ _ hq) rfl rfl (Nat.le_of_ble_eq_true rfl) (Nat.le_of_ble_eq_true rfl) trivial (Nat.le_of_ble_eq_true rfl) ?_
  refine GoC.goto 320 dX11_act_201 (by decide) ?_
  cases h
  exact GoC.vret dX11_act_320 rfl
set_option maxRecDepth 20000 in
theorem ksX11_act_152 {l : Launch} {G : Gt} {n0 u0 : Nat} {Z : Hp} (x0 : Nat) (y0 : Nat) (y1 : Int32) (σ : Hp) (h : kX11_act_152 x0 y0 y1 σ = some Z) : GoC l G RX11 "act" cX11_act 5 none 11 277 n0 u0 none Z 152 [(0, G.rv x0)] [.int y1, G.rv y0] σ := by
  unfold kX11_act_152 at h
  refine GC.aload_n 0 dX11_act_152 rfl ?_
  refine GC.getr 11 5 rfl (by decide) (by decide) fw_X11_53 (Or.inl rfl) dX11_act_153 h (fun v7 h => ?_)
  refine GC.getr 6 12 rfl (by decide) (by decide) fw_X11_373 (Or.inl rfl) dX11_act_156 h (fun v8 h => ?_)
  obtain ⟨h0, h⟩ := ckd_some h
  obtain ⟨σ9, hq, h⟩ := Option.bind_eq_some_iff.mp h
  refine GC.callvV (rest := []) 5 rfl h0 rfl [.int y1, G.rv v8] dX11_act_159 kk_X11_376 km_X5_addNumbers.1 km_X5_addNumbers.2 (ktX5_addNumbers _ _ _ _ hq) rfl rfl (Nat.le_of_ble_eq_true rfl) (Nat.le_of_ble_eq_true rfl) trivial (Nat.le_of_ble_eq_true rfl) ?_
  refine GoC.goto 320 dX11_act_162 (by decide) ?_
  cases h
  exact GoC.vret dX11_act_320 rfl
set_option maxRecDepth 20000 in
theorem ksX11_act_114 {l : Launch} {G : Gt} {n0 u0 : Nat} {Z : Hp} (x0 : Nat) (x4 : Int32) (σ : Hp) (h : kX11_act_114 x0 x4 σ = some Z) : GoC l G RX11 "act" cX11_act 5 none 11 277 n0 u0 none Z 114 [(0, G.rv x0), (4, .int x4)] [] σ := by
  unfold kX11_act_114 at h
  refine GC.aload_n 0 dX11_act_114 rfl ?_
  refine GC.getr 11 9 rfl (by decide) (by decide) fw_X11_81 (Or.inl rfl) dX11_act_115 h (fun v10 h => ?_)
  refine GoC.iload 1 dX11_act_118 rfl ?_
  obtain ⟨h0, h⟩ := ckd_some h
  obtain ⟨σ11, hq, h⟩ := Option.bind_eq_some_iff.mp h
  refine GC.callvV (rest := []) 5 rfl h0 rfl [.int x4] dX11_act_120 kk_X11_370 km_X5_addNumberOrNo.1 km_X5_addNumberOrNo.2 (ktX5_addNumberOrNo _ _ _ hq) rfl rfl (Nat.le_of_ble_eq_true rfl) (Nat.le_of_ble_eq_true rfl) trivial (Nat.le_of_ble_eq_true rfl) ?_
  refine GoC.goto 320 dX11_act_123 (by decide) ?_
  cases h
  exact GoC.vret dX11_act_320 rfl
set_option maxRecDepth 20000 in
theorem ksX11_act_76 {l : Launch} {G : Gt} {n0 u0 : Nat} {Z : Hp} (y0 : Nat) (y1 : Int32) (σ : Hp) (h : kX11_act_76 y0 y1 σ = some Z) : GoC l G RX11 "act" cX11_act 5 none 11 277 n0 u0 none Z 76 [] [.int y1, G.rv y0] σ := by
  unfold kX11_act_76 at h
  obtain ⟨h0, h⟩ := ckd_some h
  obtain ⟨σ12, hq, h⟩ := Option.bind_eq_some_iff.mp h
  refine GC.callvV (rest := []) 5 rfl h0 rfl [.int y1] dX11_act_76 kk_X11_370 km_X5_addNumberOrNo.1 km_X5_addNumberOrNo.2 (ktX5_addNumberOrNo _ _ _ hq) rfl rfl (Nat.le_of_ble_eq_true rfl) (Nat.le_of_ble_eq_true rfl) trivial (Nat.le_of_ble_eq_true rfl) ?_
  refine GoC.goto 320 dX11_act_79 (by decide) ?_
  cases h
  exact GoC.vret dX11_act_320 rfl
set_option maxRecDepth 20000 in
theorem ksX11_act {l : Launch} {G : Gt} {n0 u0 : Nat} {σ : Hp} {Z : Hp} (x0 : Nat) (x1 : Int32) (x2 : Int32) (x3 : Int32) (h : kX11_act σ x0 x1 x2 x3 = some Z) : GoC l G RX11 "act" cX11_act 5 none 11 277 n0 u0 none Z 0 [(0, G.rv x0), (1, .int x1), (2, .int x2), (3, .int x3)] [] σ := by
  unfold kX11_act at h
  refine GoC.iload_n 1 dX11_act_0 rfl ?_
  by_cases cc0 : x1 = 0
  · rw [if_pos cc0] at h
    refine GoC.tabIn 48 0 cc0 dX11_act_1 (by decide) (by decide) rfl (by decide) ?_
    refine GC.aload_n 0 dX11_act_48 rfl ?_
    refine GC.getr 11 9 rfl (by decide) (by decide) fw_X11_81 (Or.inl rfl) dX11_act_49 h (fun v13 h => ?_)
    refine GC.aload_n 0 dX11_act_52 rfl ?_
    refine GoC.iload_n 2 dX11_act_53 rfl ?_
    obtain ⟨h0, h⟩ := ckd_some h
    obtain ⟨v14, hq, h⟩ := Option.bind_eq_some_iff.mp h
    refine GC.callvI (rest := [G.rv v13]) 11 rfl h0 rfl [.int x2] dX11_act_54 kk_X11_85 km_X11_canAdd.1 km_X11_canAdd.2 (ktX11_canAdd _ _ _ hq) rfl rfl (Nat.le_of_ble_eq_true rfl) (Nat.le_of_ble_eq_true rfl) ⟨G.rv_cat _, trivial⟩ (Nat.le_of_ble_eq_true rfl) ?_
    refine GoC.if_eq 75 dX11_act_57 (by decide) h (fun h => ?_) (fun h => ?_)
    · refine GoC.iconst (-1) dX11_act_75 (by decide) ?_
      refine GoC.sub [] rfl ?_
      exact ksX11_act_76 _ _ _ h
    · refine GC.aload_n 0 dX11_act_60 rfl ?_
      refine GC.aload_n 0 dX11_act_61 rfl ?_
      refine GC.getr 11 0 rfl (by decide) (by decide) fw_X11_12 (Or.inl rfl) dX11_act_62 h (fun v15 h => ?_)
      obtain ⟨h0, h⟩ := ckd_some h
      obtain ⟨v16, hq, h⟩ := Option.bind_eq_some_iff.mp h
      refine GC.callvI (rest := [G.rv x0, G.rv v13]) 7 rfl h0 rfl [] dX11_act_65 kk_X11_93 km_X7_freeNumber.1 km_X7_freeNumber.2 (ktX7_freeNumber _ _ hq) rfl rfl (Nat.le_of_ble_eq_true rfl) (Nat.le_of_ble_eq_true rfl) ⟨G.rv_cat _, G.rv_cat _, trivial⟩ (Nat.le_of_ble_eq_true rfl) ?_
      refine GoC.iload_n 2 dX11_act_68 rfl ?_
      obtain ⟨h0, h⟩ := ckd_some h
      obtain ⟨v17, σ18, hq, h⟩ := bd2_some h
      refine GC.callvI (rest := [G.rv v13]) 11 rfl h0 rfl [.int v16, .int x2] dX11_act_69 kk_X11_97 km_X11_bringIn.1 km_X11_bringIn.2 (ktX11_bringIn _ _ _ _ hq) rfl rfl (Nat.le_of_ble_eq_true rfl) (Nat.le_of_ble_eq_true rfl) ⟨G.rv_cat _, trivial⟩ (Nat.le_of_ble_eq_true rfl) ?_
      refine GoC.goto 76 dX11_act_72 (by decide) ?_
      refine GoC.sub [] rfl ?_
      exact ksX11_act_76 _ _ _ h
  rw [if_neg cc0] at h
  by_cases cc1 : x1 = 1
  · rw [if_pos cc1] at h
    refine GoC.tabIn 82 1 cc1 dX11_act_1 (by decide) (by decide) rfl (by decide) ?_
    refine GC.aload_n 0 dX11_act_82 rfl ?_
    refine GC.getr 11 0 rfl (by decide) (by decide) fw_X11_12 (Or.inl rfl) dX11_act_83 h (fun v19 h => ?_)
    refine GoC.iload_n 2 dX11_act_86 rfl ?_
    obtain ⟨h0, h⟩ := ckd_some h
    obtain ⟨v20, hq, h⟩ := Option.bind_eq_some_iff.mp h
    refine GC.callvI (rest := []) 7 rfl h0 rfl [.int x2] dX11_act_87 kk_X11_143 km_X7_numberOf.1 km_X7_numberOf.2 (ktX7_numberOf _ _ _ hq) rfl rfl (Nat.le_of_ble_eq_true rfl) (Nat.le_of_ble_eq_true rfl) trivial (Nat.le_of_ble_eq_true rfl) ?_
    refine GoC.istore [(0, G.rv x0), (1, .int x1), (2, .int x2), (3, .int x3), (4, .int v20)] dX11_act_90 (by decide) rfl ?_
    refine GoC.iload 4 dX11_act_92 rfl ?_
    refine GoC.iconst (-1) dX11_act_94 (by decide) ?_
    refine GoC.icmp_eq 114 dX11_act_95 (by decide) h (fun h => ?_) (fun h => ?_)
    · refine GoC.sub [0, 4] rfl ?_
      exact ksX11_act_114 _ _ _ h
    · refine GC.aload_n 0 dX11_act_98 rfl ?_
      refine GoC.iload 4 dX11_act_99 rfl ?_
      obtain ⟨h0, h⟩ := ckd_some h
      obtain ⟨v21, σ22, hq, h⟩ := bd2_some h
      refine GC.callvI (rest := []) 11 rfl h0 rfl [.int v20] dX11_act_101 kk_X11_104 km_X11_takeOut.1 km_X11_takeOut.2 (ktX11_takeOut _ _ _ hq) rfl rfl (Nat.le_of_ble_eq_true rfl) (Nat.le_of_ble_eq_true rfl) trivial (Nat.le_of_ble_eq_true rfl) ?_
      refine GoC.if_eq 114 dX11_act_104 (by decide) h (fun h => ?_) (fun h => ?_)
      · refine GoC.sub [0, 4] rfl ?_
        exact ksX11_act_114 _ _ _ h
      · refine GC.aload_n 0 dX11_act_107 rfl ?_
        refine GC.getr 11 3 rfl (by decide) (by decide) fw_X11_37 (Or.inl rfl) dX11_act_108 h (fun v23 h => ?_)
        obtain ⟨h0, h⟩ := ckd_some h
        obtain ⟨σ24, hq, h⟩ := Option.bind_eq_some_iff.mp h
        refine GC.callvV (rest := []) 9 rfl h0 rfl [] dX11_act_111 kk_X11_107 km_X9_buildAnew.1 km_X9_buildAnew.2 (ktX9_buildAnew _ _ hq) rfl rfl (Nat.le_of_ble_eq_true rfl) (Nat.le_of_ble_eq_true rfl) trivial (Nat.le_of_ble_eq_true rfl) ?_
        refine GoC.sub [0, 4] rfl ?_
        exact ksX11_act_114 _ _ _ h
  rw [if_neg cc1] at h
  by_cases cc2 : x1 = 2
  · rw [if_pos cc2] at h
    refine GoC.tabIn 126 2 cc2 dX11_act_1 (by decide) (by decide) rfl (by decide) ?_
    refine GC.aload_n 0 dX11_act_126 rfl ?_
    refine GC.getr 11 9 rfl (by decide) (by decide) fw_X11_81 (Or.inl rfl) dX11_act_127 h (fun v25 h => ?_)
    refine GoC.iload_n 3 dX11_act_130 rfl ?_
    obtain ⟨v26, hq, h⟩ := Option.bind_eq_some_iff.mp h
    refine GC.callsI (rest := [G.rv v25]) [.int x3] dX11_act_131 kk_X11_276 km_X11_isHowMany (ktX11_isHowMany _ _ hq) rfl rfl (Nat.le_of_ble_eq_true rfl) (Nat.le_of_ble_eq_true rfl) ⟨G.rv_cat _, trivial⟩ (Nat.le_of_ble_eq_true rfl) ?_
    refine GoC.if_eq 151 dX11_act_134 (by decide) h (fun h => ?_) (fun h => ?_)
    · refine GoC.iconst (-1) dX11_act_151 (by decide) ?_
      refine GoC.sub [0] rfl ?_
      exact ksX11_act_152 _ _ _ _ h
    · refine GC.aload_n 0 dX11_act_137 rfl ?_
      refine GC.getr 11 5 rfl (by decide) (by decide) fw_X11_53 (Or.inl rfl) dX11_act_138 h (fun v27 h => ?_)
      refine GoC.iconst 1 dX11_act_141 (by decide) ?_
      refine GoC.iload_n 2 dX11_act_142 rfl ?_
      refine GoC.iconst (-1) dX11_act_143 (by decide) ?_
      refine GoC.iload_n 3 dX11_act_144 rfl ?_
      obtain ⟨h0, h⟩ := ckd_some h
      obtain ⟨v28, σ29, hq, h⟩ := bd2_some h
      refine GC.callvI (rest := [G.rv v25]) 6 rfl h0 rfl [.int 1, .int x2, .int (-1), .int x3] dX11_act_145 kk_X11_269 km_X6_run.1 km_X6_run.2 (ktX6_run _ _ _ _ _ _ hq) rfl rfl (Nat.le_of_ble_eq_true rfl) (Nat.le_of_ble_eq_true rfl) ⟨G.rv_cat _, trivial⟩ (Nat.le_of_ble_eq_true rfl) ?_
      refine GoC.goto 152 dX11_act_148 (by decide) ?_
      refine GoC.sub [0] rfl ?_
      exact ksX11_act_152 _ _ _ _ h
  rw [if_neg cc2] at h
  by_cases cc3 : x1 = 3
  · rw [if_pos cc3] at h
    refine GoC.tabIn 165 3 cc3 dX11_act_1 (by decide) (by decide) rfl (by decide) ?_
    refine GC.aload_n 0 dX11_act_165 rfl ?_
    refine GC.getr 11 9 rfl (by decide) (by decide) fw_X11_81 (Or.inl rfl) dX11_act_166 h (fun v30 h => ?_)
    refine GoC.iload_n 3 dX11_act_169 rfl ?_
    obtain ⟨v31, hq, h⟩ := Option.bind_eq_some_iff.mp h
    refine GC.callsI (rest := [G.rv v30]) [.int x3] dX11_act_170 kk_X11_123 km_X11_isFar (ktX11_isFar _ _ hq) rfl rfl (Nat.le_of_ble_eq_true rfl) (Nat.le_of_ble_eq_true rfl) ⟨G.rv_cat _, trivial⟩ (Nat.le_of_ble_eq_true rfl) ?_
    refine GoC.if_eq 190 dX11_act_173 (by decide) h (fun h => ?_) (fun h => ?_)
    · refine GoC.iconst (-1) dX11_act_190 (by decide) ?_
      refine GoC.sub [0] rfl ?_
      exact ksX11_act_191 _ _ _ _ h
    · refine GC.aload_n 0 dX11_act_176 rfl ?_
      refine GC.getr 11 5 rfl (by decide) (by decide) fw_X11_53 (Or.inl rfl) dX11_act_177 h (fun v32 h => ?_)
      refine GoC.iconst 0 dX11_act_180 (by decide) ?_
      refine GoC.iload_n 2 dX11_act_181 rfl ?_
      refine GoC.iconst (-1) dX11_act_182 (by decide) ?_
      refine GoC.iload_n 3 dX11_act_183 rfl ?_
      obtain ⟨h0, h⟩ := ckd_some h
      obtain ⟨v33, σ34, hq, h⟩ := bd2_some h
      refine GC.callvI (rest := [G.rv v30]) 6 rfl h0 rfl [.int 0, .int x2, .int (-1), .int x3] dX11_act_184 kk_X11_269 km_X6_run.1 km_X6_run.2 (ktX6_run _ _ _ _ _ _ hq) rfl rfl (Nat.le_of_ble_eq_true rfl) (Nat.le_of_ble_eq_true rfl) ⟨G.rv_cat _, trivial⟩ (Nat.le_of_ble_eq_true rfl) ?_
      refine GoC.goto 191 dX11_act_187 (by decide) ?_
      refine GoC.sub [0] rfl ?_
      exact ksX11_act_191 _ _ _ _ h
  rw [if_neg cc3] at h
  by_cases cc4 : x1 = 4
  · rw [if_pos cc4] at h
    refine GoC.tabIn 204 4 cc4 dX11_act_1 (by decide) (by decide) rfl (by decide) ?_
    refine GC.aload_n 0 dX11_act_204 rfl ?_
    refine GC.getr 11 0 rfl (by decide) (by decide) fw_X11_12 (Or.inl rfl) dX11_act_205 h (fun v35 h => ?_)
    refine GoC.iload_n 2 dX11_act_208 rfl ?_
    refine GC.puti 7 6 rfl (by decide) (by decide) (rfl) fw_X11_110 (Or.inl rfl) (Or.inl rfl) dX11_act_209 h (fun σ36 h => ?_)
    refine GC.aload_n 0 dX11_act_212 rfl ?_
    refine GC.getr 11 2 rfl (by decide) (by decide) fw_X11_28 (Or.inl rfl) dX11_act_213 h (fun v37 h => ?_)
    refine GC.aload_n 0 dX11_act_216 rfl ?_
    refine GC.getr 11 0 rfl (by decide) (by decide) fw_X11_12 (Or.inl rfl) dX11_act_217 h (fun v38 h => ?_)
    obtain ⟨h0, h⟩ := ckd_some h
    obtain ⟨σ39, hq, h⟩ := Option.bind_eq_some_iff.mp h
    refine GC.callvV (rest := []) 1 rfl h0 rfl [G.rv v38] dX11_act_220 kk_X11_114 km_X1_follow.1 km_X1_follow.2 (ktX1_follow _ _ _ hq) rfl rfl (Nat.le_of_ble_eq_true rfl) (Nat.le_of_ble_eq_true rfl) trivial (Nat.le_of_ble_eq_true rfl) ?_
    refine GC.aload_n 0 dX11_act_223 rfl ?_
    refine GC.getr 11 3 rfl (by decide) (by decide) fw_X11_37 (Or.inl rfl) dX11_act_224 h (fun v40 h => ?_)
    obtain ⟨h0, h⟩ := ckd_some h
    obtain ⟨σ41, hq, h⟩ := Option.bind_eq_some_iff.mp h
    refine GC.callvV (rest := []) 9 rfl h0 rfl [] dX11_act_227 kk_X11_107 km_X9_buildAnew.1 km_X9_buildAnew.2 (ktX9_buildAnew _ _ hq) rfl rfl (Nat.le_of_ble_eq_true rfl) (Nat.le_of_ble_eq_true rfl) trivial (Nat.le_of_ble_eq_true rfl) ?_
    refine GC.aload_n 0 dX11_act_230 rfl ?_
    refine GC.getr 11 9 rfl (by decide) (by decide) fw_X11_81 (Or.inl rfl) dX11_act_231 h (fun v42 h => ?_)
    refine GoC.iconst 1 dX11_act_234 (by decide) ?_
    obtain ⟨h0, h⟩ := ckd_some h
    obtain ⟨σ43, hq, h⟩ := Option.bind_eq_some_iff.mp h
    refine GC.callvV (rest := []) 5 rfl h0 rfl [.int 1] dX11_act_235 kk_X11_380 km_X5_addOk.1 km_X5_addOk.2 (ktX5_addOk _ _ _ hq) rfl rfl (Nat.le_of_ble_eq_true rfl) (Nat.le_of_ble_eq_true rfl) trivial (Nat.le_of_ble_eq_true rfl) ?_
    refine GoC.goto 320 dX11_act_238 (by decide) ?_
    cases h
    exact GoC.vret dX11_act_320 rfl
  rw [if_neg cc4] at h
  by_cases cc5 : x1 = 5
  · rw [if_pos cc5] at h
    refine GoC.tabIn 241 5 cc5 dX11_act_1 (by decide) (by decide) rfl (by decide) ?_
    refine GoC.iload_n 2 dX11_act_241 rfl ?_
    obtain ⟨v44, hq, h⟩ := Option.bind_eq_some_iff.mp h
    refine GC.callsI (rest := []) [.int x2] dX11_act_242 kk_X11_117 km_X11_isCap (ktX11_isCap _ _ hq) rfl rfl (Nat.le_of_ble_eq_true rfl) (Nat.le_of_ble_eq_true rfl) trivial (Nat.le_of_ble_eq_true rfl) ?_
    refine GoC.if_eq 263 dX11_act_245 (by decide) h (fun h => ?_) (fun h => ?_)
    · refine GoC.sub [0, 2] rfl ?_
      exact ksX11_act_263 _ _ _ h
    · refine GC.aload_n 0 dX11_act_248 rfl ?_
      refine GC.getr 11 0 rfl (by decide) (by decide) fw_X11_12 (Or.inl rfl) dX11_act_249 h (fun v45 h => ?_)
      refine GoC.iload_n 2 dX11_act_252 rfl ?_
      refine GC.puti 7 7 rfl (by decide) (by decide) (rfl) fw_X11_120 (Or.inl rfl) (Or.inl rfl) dX11_act_253 h (fun σ46 h => ?_)
      refine GC.aload_n 0 dX11_act_256 rfl ?_
      refine GC.getr 11 3 rfl (by decide) (by decide) fw_X11_37 (Or.inl rfl) dX11_act_257 h (fun v47 h => ?_)
      obtain ⟨h0, h⟩ := ckd_some h
      obtain ⟨σ48, hq, h⟩ := Option.bind_eq_some_iff.mp h
      refine GC.callvV (rest := []) 9 rfl h0 rfl [] dX11_act_260 kk_X11_107 km_X9_buildAnew.1 km_X9_buildAnew.2 (ktX9_buildAnew _ _ hq) rfl rfl (Nat.le_of_ble_eq_true rfl) (Nat.le_of_ble_eq_true rfl) trivial (Nat.le_of_ble_eq_true rfl) ?_
      refine GoC.sub [0, 2] rfl ?_
      exact ksX11_act_263 _ _ _ h
  rw [if_neg cc5] at h
  by_cases cc6 : x1 = 6
  · rw [if_pos cc6] at h
    refine GoC.tabIn 277 6 cc6 dX11_act_1 (by decide) (by decide) rfl (by decide) ?_
    refine GC.aload_n 0 dX11_act_277 rfl ?_
    refine GC.getr 11 9 rfl (by decide) (by decide) fw_X11_81 (Or.inl rfl) dX11_act_278 h (fun v49 h => ?_)
    refine GC.aload_n 0 dX11_act_281 rfl ?_
    refine GC.getr 11 1 rfl (by decide) (by decide) fw_X11_19 (Or.inl rfl) dX11_act_282 h (fun v50 h => ?_)
    refine GC.aload_n 0 dX11_act_285 rfl ?_
    refine GC.getr 11 0 rfl (by decide) (by decide) fw_X11_12 (Or.inl rfl) dX11_act_286 h (fun v51 h => ?_)
    refine GC.geti 7 6 rfl (by decide) (by decide) fw_X11_110 (Or.inl rfl) dX11_act_289 h (fun v52 h => ?_)
    refine GoC.iload_n 2 dX11_act_292 rfl ?_
    refine GoC.iload_n 3 dX11_act_293 rfl ?_
    obtain ⟨h0, h⟩ := ckd_some h
    obtain ⟨v53, σ54, hq, h⟩ := bd2_some h
    refine GC.callvI (rest := [G.rv v49]) 2 rfl h0 rfl [.int v52, .int x2, .int x3] dX11_act_294 kk_X11_217 km_X2_between.1 km_X2_between.2 (ktX2_between _ _ _ _ _ hq) rfl rfl (Nat.le_of_ble_eq_true rfl) (Nat.le_of_ble_eq_true rfl) ⟨G.rv_cat _, trivial⟩ (Nat.le_of_ble_eq_true rfl) ?_
    obtain ⟨h0, h⟩ := ckd_some h
    obtain ⟨σ55, hq, h⟩ := Option.bind_eq_some_iff.mp h
    refine GC.callvV (rest := []) 5 rfl h0 rfl [.int v53] dX11_act_297 kk_X11_384 km_X5_addNumber.1 km_X5_addNumber.2 (ktX5_addNumber _ _ _ hq) rfl rfl (Nat.le_of_ble_eq_true rfl) (Nat.le_of_ble_eq_true rfl) trivial (Nat.le_of_ble_eq_true rfl) ?_
    refine GoC.goto 320 dX11_act_300 (by decide) ?_
    cases h
    exact GoC.vret dX11_act_320 rfl
  rw [if_neg cc6] at h
  by_cases cc7 : x1 = 7
  · rw [if_pos cc7] at h
    refine GoC.tabIn 303 7 cc7 dX11_act_1 (by decide) (by decide) rfl (by decide) ?_
    refine GC.aload_n 0 dX11_act_303 rfl ?_
    refine GC.getr 11 9 rfl (by decide) (by decide) fw_X11_81 (Or.inl rfl) dX11_act_304 h (fun v56 h => ?_)
    refine GC.aload_n 0 dX11_act_307 rfl ?_
    refine GC.getr 11 0 rfl (by decide) (by decide) fw_X11_12 (Or.inl rfl) dX11_act_308 h (fun v57 h => ?_)
    refine GC.geti 7 1 rfl (by decide) (by decide) fw_X11_196 (Or.inl rfl) dX11_act_311 h (fun v58 h => ?_)
    obtain ⟨h0, h⟩ := ckd_some h
    obtain ⟨σ59, hq, h⟩ := Option.bind_eq_some_iff.mp h
    refine GC.callvV (rest := []) 5 rfl h0 rfl [.int v58] dX11_act_314 kk_X11_384 km_X5_addNumber.1 km_X5_addNumber.2 (ktX5_addNumber _ _ _ hq) rfl rfl (Nat.le_of_ble_eq_true rfl) (Nat.le_of_ble_eq_true rfl) trivial (Nat.le_of_ble_eq_true rfl) ?_
    refine GoC.goto 320 dX11_act_317 (by decide) ?_
    cases h
    exact GoC.vret dX11_act_320 rfl
  rw [if_neg cc7] at h
  refine GoC.tabOut 320 dX11_act_1 (sw_out (0) 8 (by decide) (fun k hk => match k, hk with | 0, _ => cc0 | 1, _ => cc1 | 2, _ => cc2 | 3, _ => cc3 | 4, _ => cc4 | 5, _ => cc5 | 6, _ => cc6 | 7, _ => cc7 | (k + 8), hk => absurd hk (by omega)) _ rfl) (by decide) ?_
  cases h
  exact GoC.vret dX11_act_320 rfl
set_option maxRecDepth 20000 in
theorem ktX11_act {l : Launch} {G : Gt} {σ : Hp} (x0 : Nat) (x1 : Int32) (x2 : Int32) (x3 : Int32) : ∀ Z, kX11_act σ x0 x1 x2 x3 = some Z → MtC l G yX11_act cX11_act 5 none 11 277 [G.rv x0, .int x1, .int x2, .int x3] σ none Z := fun Z h => MtC.at (by decide +kernel) ⟨G.rv_cat _, rfl, rfl, rfl, trivial⟩ (Nat.le_of_ble_eq_true rfl) (ksX11_act x0 x1 x2 x3 h)
/-! X11_fault -/
def kX11_fault (σ : Hp) (x0 : Nat) : Option (Int32) := (gfr σ 21 1108 x0).bind (fun v1 => (gfi σ 10 6 v1).bind (fun v2 => some v2))
set_option maxRecDepth 20000 in
theorem ksX11_fault {l : Launch} {G : Gt} {n0 u0 : Nat} {σ : Hp} {Z : Int32} (x0 : Nat) (h : kX11_fault σ x0 = some Z) : GoC l G RX11 "fault" cX11_fault 1 (some .int) 0 0 n0 u0 (some (.int Z)) σ 0 [(0, G.rv x0)] [] σ := by
  unfold kX11_fault at h
  refine GC.aload_n 0 dX11_fault_0 rfl ?_
  refine GC.getr 11 8 rfl (by decide) (by decide) fw_X11_74 (Or.inl rfl) dX11_fault_1 h (fun v1 h => ?_)
  refine GC.geti 0 6 rfl (by decide) (by decide) fw_X11_166 (Or.inl rfl) dX11_fault_4 h (fun v2 h => ?_)
  cases h
  exact GoC.iret dX11_fault_7 rfl
set_option maxRecDepth 20000 in
theorem ktX11_fault {l : Launch} {G : Gt} {σ : Hp} (x0 : Nat) : ∀ Z, kX11_fault σ x0 = some Z → MtC l G yX11_fault cX11_fault 1 (some .int) 0 0 [G.rv x0] σ (some (.int Z)) σ := fun Z h => MtC.at (by decide +kernel) ⟨G.rv_cat _, trivial⟩ (Nat.le_of_ble_eq_true rfl) (ksX11_fault x0 h)
/-! X11_reply -/
def kX11_reply (σ : Hp) (x0 : Nat) (x1 : Int32) : Option (Int32) := if x1 = (-1) then (gfr σ 21 1109 x0).bind (fun v6 => (gfi σ 15 501 v6).bind (fun v7 => some v7)) else if x1 < 0 then some (-1) else (gfr σ 21 1109 x0).bind (fun v1 => (gfi σ 15 501 v1).bind (fun v2 => if v2 ≤ x1 then some (-1) else (gfr σ 21 1109 x0).bind (fun v3 => (gfr σ 15 500 v3).bind (fun v4 => (ald σ 1 v4 x1).bind (fun v5 => some v5)))))
set_option maxRecDepth 20000 in
theorem ksX11_reply {l : Launch} {G : Gt} {n0 u0 : Nat} {σ : Hp} {Z : Int32} (x0 : Nat) (x1 : Int32) (h : kX11_reply σ x0 x1 = some Z) : GoC l G RX11 "reply" cX11_reply 2 (some .int) 0 0 n0 u0 (some (.int Z)) σ 0 [(0, G.rv x0), (1, .int x1)] [] σ := by
  unfold kX11_reply at h
  refine GoC.iload_n 1 dX11_reply_0 rfl ?_
  refine GoC.iconst (-1) dX11_reply_1 (by decide) ?_
  refine GoC.icmp_ne 13 dX11_reply_2 (by decide) h (fun h => ?_) (fun h => ?_)
  · refine GoC.iload_n 1 dX11_reply_13 rfl ?_
    refine GoC.if_lt 40 dX11_reply_14 (by decide) h (fun h => ?_) (fun h => ?_)
    · refine GoC.iconst (-1) dX11_reply_40 (by decide) ?_
      cases h
      exact GoC.iret dX11_reply_41 rfl
    · refine GoC.iload_n 1 dX11_reply_17 rfl ?_
      refine GC.aload_n 0 dX11_reply_18 rfl ?_
      refine GC.getr 11 9 rfl (by decide) (by decide) fw_X11_81 (Or.inl rfl) dX11_reply_19 h (fun v1 h => ?_)
      refine GC.geti 5 1 rfl (by decide) (by decide) fw_X11_160 (Or.inl rfl) dX11_reply_22 h (fun v2 h => ?_)
      refine GoC.icmp_ge 40 dX11_reply_25 (by decide) h (fun h => ?_) (fun h => ?_)
      · refine GoC.iconst (-1) dX11_reply_40 (by decide) ?_
        cases h
        exact GoC.iret dX11_reply_41 rfl
      · refine GC.aload_n 0 dX11_reply_28 rfl ?_
        refine GC.getr 11 9 rfl (by decide) (by decide) fw_X11_81 (Or.inl rfl) dX11_reply_29 h (fun v3 h => ?_)
        refine GC.getr 5 0 rfl (by decide) (by decide) fw_X11_187 (Or.inl rfl) dX11_reply_32 h (fun v4 h => ?_)
        refine GoC.iload_n 1 dX11_reply_35 rfl ?_
        refine GC.iald dX11_reply_36 h (fun v5 h => ?_)
        refine GoC.goto 41 dX11_reply_37 (by decide) ?_
        cases h
        exact GoC.iret dX11_reply_41 rfl
  · refine GC.aload_n 0 dX11_reply_5 rfl ?_
    refine GC.getr 11 9 rfl (by decide) (by decide) fw_X11_81 (Or.inl rfl) dX11_reply_6 h (fun v6 h => ?_)
    refine GC.geti 5 1 rfl (by decide) (by decide) fw_X11_160 (Or.inl rfl) dX11_reply_9 h (fun v7 h => ?_)
    cases h
    exact GoC.iret dX11_reply_12 rfl
set_option maxRecDepth 20000 in
theorem ktX11_reply {l : Launch} {G : Gt} {σ : Hp} (x0 : Nat) (x1 : Int32) : ∀ Z, kX11_reply σ x0 x1 = some Z → MtC l G yX11_reply cX11_reply 2 (some .int) 0 0 [G.rv x0, .int x1] σ (some (.int Z)) σ := fun Z h => MtC.at (by decide +kernel) ⟨G.rv_cat _, rfl, trivial⟩ (Nat.le_of_ble_eq_true rfl) (ksX11_reply x0 x1 h)
/-! X11_undo -/
def kX11_undo (σ : Hp) (x0 : Nat) : Option (Int32 × Hp) := (gfr σ 21 1107 x0).bind (fun v1 => ckd σ v1 14 ((kX4_countSteps σ v1).bind (fun v2 => if v2 = 0 then some ((-1), σ) else (gfr σ 21 1107 x0).bind (fun v3 => (gfr σ 21 1100 x0).bind (fun v4 => ckd σ v3 14 ((kX4_takeBack σ v3 v4).bind (fun σ5 => (gfr σ5 21 1102 x0).bind (fun v6 => (gfr σ5 21 1100 x0).bind (fun v7 => ckd σ5 v6 11 ((kX1_follow σ5 v6 v7).bind (fun σ8 => (gfr σ8 21 1107 x0).bind (fun v9 => ckd σ8 v9 14 ((kX4_countSteps σ8 v9).bind (fun v10 => some (v10, σ8)))))))))))))))
set_option maxRecDepth 20000 in
theorem ksX11_undo {l : Launch} {G : Gt} {n0 u0 : Nat} {σ : Hp} {Z : Int32 × Hp} (x0 : Nat) (h : kX11_undo σ x0 = some Z) : GoC l G RX11 "undo" cX11_undo 1 (some .int) 10 245 n0 u0 (some (.int Z.1)) Z.2 0 [(0, G.rv x0)] [] σ := by
  unfold kX11_undo at h
  refine GC.aload_n 0 dX11_undo_0 rfl ?_
  refine GC.getr 11 7 rfl (by decide) (by decide) fw_X11_67 (Or.inl rfl) dX11_undo_1 h (fun v1 h => ?_)
  obtain ⟨h0, h⟩ := ckd_some h
  obtain ⟨v2, hq, h⟩ := Option.bind_eq_some_iff.mp h
  refine GC.callvI (rest := []) 4 rfl h0 rfl [] dX11_undo_4 kk_X11_190 km_X4_countSteps.1 km_X4_countSteps.2 (ktX4_countSteps _ _ hq) rfl rfl (Nat.le_of_ble_eq_true rfl) (Nat.le_of_ble_eq_true rfl) trivial (Nat.le_of_ble_eq_true rfl) ?_
  refine GoC.if_ne 12 dX11_undo_7 (by decide) h (fun h => ?_) (fun h => ?_)
  · refine GC.aload_n 0 dX11_undo_12 rfl ?_
    refine GC.getr 11 7 rfl (by decide) (by decide) fw_X11_67 (Or.inl rfl) dX11_undo_13 h (fun v3 h => ?_)
    refine GC.aload_n 0 dX11_undo_16 rfl ?_
    refine GC.getr 11 0 rfl (by decide) (by decide) fw_X11_12 (Or.inl rfl) dX11_undo_17 h (fun v4 h => ?_)
    obtain ⟨h0, h⟩ := ckd_some h
    obtain ⟨σ5, hq, h⟩ := Option.bind_eq_some_iff.mp h
    refine GC.callvV (rest := []) 4 rfl h0 rfl [G.rv v4] dX11_undo_20 kk_X11_193 km_X4_takeBack.1 km_X4_takeBack.2 (ktX4_takeBack _ _ _ hq) rfl rfl (Nat.le_of_ble_eq_true rfl) (Nat.le_of_ble_eq_true rfl) trivial (Nat.le_of_ble_eq_true rfl) ?_
    refine GC.aload_n 0 dX11_undo_23 rfl ?_
    refine GC.getr 11 2 rfl (by decide) (by decide) fw_X11_28 (Or.inl rfl) dX11_undo_24 h (fun v6 h => ?_)
    refine GC.aload_n 0 dX11_undo_27 rfl ?_
    refine GC.getr 11 0 rfl (by decide) (by decide) fw_X11_12 (Or.inl rfl) dX11_undo_28 h (fun v7 h => ?_)
    obtain ⟨h0, h⟩ := ckd_some h
    obtain ⟨σ8, hq, h⟩ := Option.bind_eq_some_iff.mp h
    refine GC.callvV (rest := []) 1 rfl h0 rfl [G.rv v7] dX11_undo_31 kk_X11_114 km_X1_follow.1 km_X1_follow.2 (ktX1_follow _ _ _ hq) rfl rfl (Nat.le_of_ble_eq_true rfl) (Nat.le_of_ble_eq_true rfl) trivial (Nat.le_of_ble_eq_true rfl) ?_
    refine GC.aload_n 0 dX11_undo_34 rfl ?_
    refine GC.getr 11 7 rfl (by decide) (by decide) fw_X11_67 (Or.inl rfl) dX11_undo_35 h (fun v9 h => ?_)
    obtain ⟨h0, h⟩ := ckd_some h
    obtain ⟨v10, hq, h⟩ := Option.bind_eq_some_iff.mp h
    refine GC.callvI (rest := []) 4 rfl h0 rfl [] dX11_undo_38 kk_X11_190 km_X4_countSteps.1 km_X4_countSteps.2 (ktX4_countSteps _ _ hq) rfl rfl (Nat.le_of_ble_eq_true rfl) (Nat.le_of_ble_eq_true rfl) trivial (Nat.le_of_ble_eq_true rfl) ?_
    cases h
    exact GoC.iret dX11_undo_41 rfl
  · refine GoC.iconst (-1) dX11_undo_10 (by decide) ?_
    cases h
    exact GoC.iret dX11_undo_11 rfl
set_option maxRecDepth 20000 in
theorem ktX11_undo {l : Launch} {G : Gt} {σ : Hp} (x0 : Nat) : ∀ Z, kX11_undo σ x0 = some Z → MtC l G yX11_undo cX11_undo 1 (some .int) 10 245 [G.rv x0] σ (some (.int Z.1)) Z.2 := fun Z h => MtC.at (by decide +kernel) ⟨G.rv_cat _, trivial⟩ (Nat.le_of_ble_eq_true rfl) (ksX11_undo x0 h)
/-! X11_is -/
def kX11_is (σ : Hp) (x0 : Nat) (x1 : Int32) : Option (Int32) := if x1 = 0 then (gfr σ 21 1100 x0).bind (fun v1 => (gfi σ 17 701 v1).bind (fun v2 => some v2)) else if x1 = 1 then (gfr σ 21 1100 x0).bind (fun v3 => (gfi σ 17 709 v3).bind (fun v4 => some v4)) else if x1 = 2 then (gfr σ 21 1103 x0).bind (fun v5 => ckd σ v5 19 ((kX9_countLeaves σ v5).bind (fun v6 => some v6))) else if x1 = 3 then (gfr σ 21 1103 x0).bind (fun v7 => ckd σ v7 19 ((kX9_countLevels σ v7).bind (fun v8 => some v8))) else if x1 = 4 then (gfr σ 21 1100 x0).bind (fun v9 => (gfi σ 17 706 v9).bind (fun v10 => some v10)) else if x1 = 5 then (gfr σ 21 1100 x0).bind (fun v11 => (gfi σ 17 707 v11).bind (fun v12 => some v12)) else if x1 = 6 then (gfr σ 21 1100 x0).bind (fun v13 => (gfi σ 17 705 v13).bind (fun v14 => some v14)) else if x1 = 7 then (gfr σ 21 1103 x0).bind (fun v15 => ckd σ v15 19 ((kX9_countEntries σ v15).bind (fun v16 => some v16))) else if x1 = 8 then (gfr σ 21 1103 x0).bind (fun v17 => ckd σ v17 19 ((kX9_countOverlaps σ v17).bind (fun v18 => some v18))) else if x1 = 9 then (gfr σ 21 1103 x0).bind (fun v19 => ckd σ v19 19 ((kX9_sumReaches σ v19).bind (fun v20 => some v20))) else some (-1)
set_option maxRecDepth 20000 in
theorem ksX11_is {l : Launch} {G : Gt} {n0 u0 : Nat} {σ : Hp} {Z : Int32} (x0 : Nat) (x1 : Int32) (h : kX11_is σ x0 x1 = some Z) : GoC l G RX11 "is" cX11_is 2 (some .int) 5 109 n0 u0 (some (.int Z)) σ 0 [(0, G.rv x0), (1, .int x1)] [] σ := by
  unfold kX11_is at h
  refine GoC.iload_n 1 dX11_is_0 rfl ?_
  by_cases cc0 : x1 = 0
  · rw [if_pos cc0] at h
    refine GoC.tabIn 56 0 cc0 dX11_is_1 (by decide) (by decide) rfl (by decide) ?_
    refine GC.aload_n 0 dX11_is_56 rfl ?_
    refine GC.getr 11 0 rfl (by decide) (by decide) fw_X11_12 (Or.inl rfl) dX11_is_57 h (fun v1 h => ?_)
    refine GC.geti 7 1 rfl (by decide) (by decide) fw_X11_196 (Or.inl rfl) dX11_is_60 h (fun v2 h => ?_)
    cases h
    exact GoC.iret dX11_is_63 rfl
  rw [if_neg cc0] at h
  by_cases cc1 : x1 = 1
  · rw [if_pos cc1] at h
    refine GoC.tabIn 64 1 cc1 dX11_is_1 (by decide) (by decide) rfl (by decide) ?_
    refine GC.aload_n 0 dX11_is_64 rfl ?_
    refine GC.getr 11 0 rfl (by decide) (by decide) fw_X11_12 (Or.inl rfl) dX11_is_65 h (fun v3 h => ?_)
    refine GC.geti 7 9 rfl (by decide) (by decide) fw_X11_136 (Or.inl rfl) dX11_is_68 h (fun v4 h => ?_)
    cases h
    exact GoC.iret dX11_is_71 rfl
  rw [if_neg cc1] at h
  by_cases cc2 : x1 = 2
  · rw [if_pos cc2] at h
    refine GoC.tabIn 72 2 cc2 dX11_is_1 (by decide) (by decide) rfl (by decide) ?_
    refine GC.aload_n 0 dX11_is_72 rfl ?_
    refine GC.getr 11 3 rfl (by decide) (by decide) fw_X11_37 (Or.inl rfl) dX11_is_73 h (fun v5 h => ?_)
    obtain ⟨h0, h⟩ := ckd_some h
    obtain ⟨v6, hq, h⟩ := Option.bind_eq_some_iff.mp h
    refine GC.callvI (rest := []) 9 rfl h0 rfl [] dX11_is_76 kk_X11_199 km_X9_countLeaves.1 km_X9_countLeaves.2 (ktX9_countLeaves _ _ hq) rfl rfl (Nat.le_of_ble_eq_true rfl) (Nat.le_of_ble_eq_true rfl) trivial (Nat.le_of_ble_eq_true rfl) ?_
    cases h
    exact GoC.iret dX11_is_79 rfl
  rw [if_neg cc2] at h
  by_cases cc3 : x1 = 3
  · rw [if_pos cc3] at h
    refine GoC.tabIn 80 3 cc3 dX11_is_1 (by decide) (by decide) rfl (by decide) ?_
    refine GC.aload_n 0 dX11_is_80 rfl ?_
    refine GC.getr 11 3 rfl (by decide) (by decide) fw_X11_37 (Or.inl rfl) dX11_is_81 h (fun v7 h => ?_)
    obtain ⟨h0, h⟩ := ckd_some h
    obtain ⟨v8, hq, h⟩ := Option.bind_eq_some_iff.mp h
    refine GC.callvI (rest := []) 9 rfl h0 rfl [] dX11_is_84 kk_X11_202 km_X9_countLevels.1 km_X9_countLevels.2 (ktX9_countLevels _ _ hq) rfl rfl (Nat.le_of_ble_eq_true rfl) (Nat.le_of_ble_eq_true rfl) trivial (Nat.le_of_ble_eq_true rfl) ?_
    cases h
    exact GoC.iret dX11_is_87 rfl
  rw [if_neg cc3] at h
  by_cases cc4 : x1 = 4
  · rw [if_pos cc4] at h
    refine GoC.tabIn 88 4 cc4 dX11_is_1 (by decide) (by decide) rfl (by decide) ?_
    refine GC.aload_n 0 dX11_is_88 rfl ?_
    refine GC.getr 11 0 rfl (by decide) (by decide) fw_X11_12 (Or.inl rfl) dX11_is_89 h (fun v9 h => ?_)
    refine GC.geti 7 6 rfl (by decide) (by decide) fw_X11_110 (Or.inl rfl) dX11_is_92 h (fun v10 h => ?_)
    cases h
    exact GoC.iret dX11_is_95 rfl
  rw [if_neg cc4] at h
  by_cases cc5 : x1 = 5
  · rw [if_pos cc5] at h
    refine GoC.tabIn 96 5 cc5 dX11_is_1 (by decide) (by decide) rfl (by decide) ?_
    refine GC.aload_n 0 dX11_is_96 rfl ?_
    refine GC.getr 11 0 rfl (by decide) (by decide) fw_X11_12 (Or.inl rfl) dX11_is_97 h (fun v11 h => ?_)
    refine GC.geti 7 7 rfl (by decide) (by decide) fw_X11_120 (Or.inl rfl) dX11_is_100 h (fun v12 h => ?_)
    cases h
    exact GoC.iret dX11_is_103 rfl
  rw [if_neg cc5] at h
  by_cases cc6 : x1 = 6
  · rw [if_pos cc6] at h
    refine GoC.tabIn 104 6 cc6 dX11_is_1 (by decide) (by decide) rfl (by decide) ?_
    refine GC.aload_n 0 dX11_is_104 rfl ?_
    refine GC.getr 11 0 rfl (by decide) (by decide) fw_X11_12 (Or.inl rfl) dX11_is_105 h (fun v13 h => ?_)
    refine GC.geti 7 5 rfl (by decide) (by decide) fw_X11_129 (Or.inl rfl) dX11_is_108 h (fun v14 h => ?_)
    cases h
    exact GoC.iret dX11_is_111 rfl
  rw [if_neg cc6] at h
  by_cases cc7 : x1 = 7
  · rw [if_pos cc7] at h
    refine GoC.tabIn 112 7 cc7 dX11_is_1 (by decide) (by decide) rfl (by decide) ?_
    refine GC.aload_n 0 dX11_is_112 rfl ?_
    refine GC.getr 11 3 rfl (by decide) (by decide) fw_X11_37 (Or.inl rfl) dX11_is_113 h (fun v15 h => ?_)
    obtain ⟨h0, h⟩ := ckd_some h
    obtain ⟨v16, hq, h⟩ := Option.bind_eq_some_iff.mp h
    refine GC.callvI (rest := []) 9 rfl h0 rfl [] dX11_is_116 kk_X11_205 km_X9_countEntries.1 km_X9_countEntries.2 (ktX9_countEntries _ _ hq) rfl rfl (Nat.le_of_ble_eq_true rfl) (Nat.le_of_ble_eq_true rfl) trivial (Nat.le_of_ble_eq_true rfl) ?_
    cases h
    exact GoC.iret dX11_is_119 rfl
  rw [if_neg cc7] at h
  by_cases cc8 : x1 = 8
  · rw [if_pos cc8] at h
    refine GoC.tabIn 120 8 cc8 dX11_is_1 (by decide) (by decide) rfl (by decide) ?_
    refine GC.aload_n 0 dX11_is_120 rfl ?_
    refine GC.getr 11 3 rfl (by decide) (by decide) fw_X11_37 (Or.inl rfl) dX11_is_121 h (fun v17 h => ?_)
    obtain ⟨h0, h⟩ := ckd_some h
    obtain ⟨v18, hq, h⟩ := Option.bind_eq_some_iff.mp h
    refine GC.callvI (rest := []) 9 rfl h0 rfl [] dX11_is_124 kk_X11_208 km_X9_countOverlaps.1 km_X9_countOverlaps.2 (ktX9_countOverlaps _ _ hq) rfl rfl (Nat.le_of_ble_eq_true rfl) (Nat.le_of_ble_eq_true rfl) trivial (Nat.le_of_ble_eq_true rfl) ?_
    cases h
    exact GoC.iret dX11_is_127 rfl
  rw [if_neg cc8] at h
  by_cases cc9 : x1 = 9
  · rw [if_pos cc9] at h
    refine GoC.tabIn 128 9 cc9 dX11_is_1 (by decide) (by decide) rfl (by decide) ?_
    refine GC.aload_n 0 dX11_is_128 rfl ?_
    refine GC.getr 11 3 rfl (by decide) (by decide) fw_X11_37 (Or.inl rfl) dX11_is_129 h (fun v19 h => ?_)
    obtain ⟨h0, h⟩ := ckd_some h
    obtain ⟨v20, hq, h⟩ := Option.bind_eq_some_iff.mp h
    refine GC.callvI (rest := []) 9 rfl h0 rfl [] dX11_is_132 kk_X11_211 km_X9_sumReaches.1 km_X9_sumReaches.2 (ktX9_sumReaches _ _ hq) rfl rfl (Nat.le_of_ble_eq_true rfl) (Nat.le_of_ble_eq_true rfl) trivial (Nat.le_of_ble_eq_true rfl) ?_
    cases h
    exact GoC.iret dX11_is_135 rfl
  rw [if_neg cc9] at h
  refine GoC.tabOut 136 dX11_is_1 (sw_out (0) 10 (by decide) (fun k hk => match k, hk with | 0, _ => cc0 | 1, _ => cc1 | 2, _ => cc2 | 3, _ => cc3 | 4, _ => cc4 | 5, _ => cc5 | 6, _ => cc6 | 7, _ => cc7 | 8, _ => cc8 | 9, _ => cc9 | (k + 10), hk => absurd hk (by omega)) _ rfl) (by decide) ?_
  refine GoC.iconst (-1) dX11_is_136 (by decide) ?_
  cases h
  exact GoC.iret dX11_is_137 rfl
set_option maxRecDepth 20000 in
theorem ktX11_is {l : Launch} {G : Gt} {σ : Hp} (x0 : Nat) (x1 : Int32) : ∀ Z, kX11_is σ x0 x1 = some Z → MtC l G yX11_is cX11_is 2 (some .int) 5 109 [G.rv x0, .int x1] σ (some (.int Z)) σ := fun Z h => MtC.at (by decide +kernel) ⟨G.rv_cat _, rfl, trivial⟩ (Nat.le_of_ble_eq_true rfl) (ksX11_is x0 x1 h)
/-! X11_word -/
def kX11_word (σ : Hp) (x0 : Nat) (x1 : Int32) : Option (Int32) := (gfr σ 21 1100 x0).bind (fun v1 => ckd σ v1 17 ((kX7_has σ v1 x1).bind (fun v2 => if v2 = 0 then some (-1) else (gfr σ 21 1100 x0).bind (fun v3 => (gfr σ 17 700 v3).bind (fun v4 => (ald σ 1 v4 x1).bind (fun v5 => some v5))))))
set_option maxRecDepth 20000 in
theorem ksX11_word {l : Launch} {G : Gt} {n0 u0 : Nat} {σ : Hp} {Z : Int32} (x0 : Nat) (x1 : Int32) (h : kX11_word σ x0 x1 = some Z) : GoC l G RX11 "word" cX11_word 2 (some .int) 1 21 n0 u0 (some (.int Z)) σ 0 [(0, G.rv x0), (1, .int x1)] [] σ := by
  unfold kX11_word at h
  refine GC.aload_n 0 dX11_word_0 rfl ?_
  refine GC.getr 11 0 rfl (by decide) (by decide) fw_X11_12 (Or.inl rfl) dX11_word_1 h (fun v1 h => ?_)
  refine GoC.iload_n 1 dX11_word_4 rfl ?_
  obtain ⟨h0, h⟩ := ckd_some h
  obtain ⟨v2, hq, h⟩ := Option.bind_eq_some_iff.mp h
  refine GC.callvI (rest := []) 7 rfl h0 rfl [.int x1] dX11_word_5 kk_X11_101 km_X7_has.1 km_X7_has.2 (ktX7_has _ _ _ hq) rfl rfl (Nat.le_of_ble_eq_true rfl) (Nat.le_of_ble_eq_true rfl) trivial (Nat.le_of_ble_eq_true rfl) ?_
  refine GoC.if_eq 23 dX11_word_8 (by decide) h (fun h => ?_) (fun h => ?_)
  · refine GoC.iconst (-1) dX11_word_23 (by decide) ?_
    cases h
    exact GoC.iret dX11_word_24 rfl
  · refine GC.aload_n 0 dX11_word_11 rfl ?_
    refine GC.getr 11 0 rfl (by decide) (by decide) fw_X11_12 (Or.inl rfl) dX11_word_12 h (fun v3 h => ?_)
    refine GC.getr 7 0 rfl (by decide) (by decide) fw_X11_214 (Or.inl rfl) dX11_word_15 h (fun v4 h => ?_)
    refine GoC.iload_n 1 dX11_word_18 rfl ?_
    refine GC.iald dX11_word_19 h (fun v5 h => ?_)
    refine GoC.goto 24 dX11_word_20 (by decide) ?_
    cases h
    exact GoC.iret dX11_word_24 rfl
set_option maxRecDepth 20000 in
theorem ktX11_word {l : Launch} {G : Gt} {σ : Hp} (x0 : Nat) (x1 : Int32) : ∀ Z, kX11_word σ x0 x1 = some Z → MtC l G yX11_word cX11_word 2 (some .int) 1 21 [G.rv x0, .int x1] σ (some (.int Z)) σ := fun Z h => MtC.at (by decide +kernel) ⟨G.rv_cat _, rfl, trivial⟩ (Nat.le_of_ble_eq_true rfl) (ksX11_word x0 x1 h)
/-! X11_thing -/
def kX11_thing (σ : Hp) (x0 : Nat) (x1 : Int32) : Option (Int32) := (gfr σ 21 1101 x0).bind (fun v1 => ckd σ v1 12 ((kX2_lettersIn σ v1 x1).bind (fun v2 => if v2 = (-1) then some (-1) else (gfr σ 21 1100 x0).bind (fun v3 => ckd σ v3 17 ((kX7_numberOf σ v3 x1).bind (fun v4 => some v4))))))
set_option maxRecDepth 20000 in
theorem ksX11_thing {l : Launch} {G : Gt} {n0 u0 : Nat} {σ : Hp} {Z : Int32} (x0 : Nat) (x1 : Int32) (h : kX11_thing σ x0 x1 = some Z) : GoC l G RX11 "thing" cX11_thing 2 (some .int) 1 24 n0 u0 (some (.int Z)) σ 0 [(0, G.rv x0), (1, .int x1)] [] σ := by
  unfold kX11_thing at h
  refine GC.aload_n 0 dX11_thing_0 rfl ?_
  refine GC.getr 11 1 rfl (by decide) (by decide) fw_X11_19 (Or.inl rfl) dX11_thing_1 h (fun v1 h => ?_)
  refine GoC.iload_n 1 dX11_thing_4 rfl ?_
  obtain ⟨h0, h⟩ := ckd_some h
  obtain ⟨v2, hq, h⟩ := Option.bind_eq_some_iff.mp h
  refine GC.callvI (rest := []) 2 rfl h0 rfl [.int x1] dX11_thing_5 kk_X11_139 km_X2_lettersIn.1 km_X2_lettersIn.2 (ktX2_lettersIn _ _ _ hq) rfl rfl (Nat.le_of_ble_eq_true rfl) (Nat.le_of_ble_eq_true rfl) trivial (Nat.le_of_ble_eq_true rfl) ?_
  refine GoC.iconst (-1) dX11_thing_8 (by decide) ?_
  refine GoC.icmp_ne 16 dX11_thing_9 (by decide) h (fun h => ?_) (fun h => ?_)
  · refine GC.aload_n 0 dX11_thing_16 rfl ?_
    refine GC.getr 11 0 rfl (by decide) (by decide) fw_X11_12 (Or.inl rfl) dX11_thing_17 h (fun v3 h => ?_)
    refine GoC.iload_n 1 dX11_thing_20 rfl ?_
    obtain ⟨h0, h⟩ := ckd_some h
    obtain ⟨v4, hq, h⟩ := Option.bind_eq_some_iff.mp h
    refine GC.callvI (rest := []) 7 rfl h0 rfl [.int x1] dX11_thing_21 kk_X11_143 km_X7_numberOf.1 km_X7_numberOf.2 (ktX7_numberOf _ _ _ hq) rfl rfl (Nat.le_of_ble_eq_true rfl) (Nat.le_of_ble_eq_true rfl) trivial (Nat.le_of_ble_eq_true rfl) ?_
    cases h
    exact GoC.iret dX11_thing_24 rfl
  · refine GoC.iconst (-1) dX11_thing_12 (by decide) ?_
    refine GoC.goto 24 dX11_thing_13 (by decide) ?_
    cases h
    exact GoC.iret dX11_thing_24 rfl
set_option maxRecDepth 20000 in
theorem ktX11_thing {l : Launch} {G : Gt} {σ : Hp} (x0 : Nat) (x1 : Int32) : ∀ Z, kX11_thing σ x0 x1 = some Z → MtC l G yX11_thing cX11_thing 2 (some .int) 1 24 [G.rv x0, .int x1] σ (some (.int Z)) σ := fun Z h => MtC.at (by decide +kernel) ⟨G.rv_cat _, rfl, trivial⟩ (Nat.le_of_ble_eq_true rfl) (ksX11_thing x0 x1 h)
/-! X11_letters -/
def kX11_letters (σ : Hp) (x0 : Nat) (x1 : Int32) : Option (Int32) := (gfr σ 21 1101 x0).bind (fun v1 => ckd σ v1 12 ((kX2_lettersIn σ v1 x1).bind (fun v2 => some v2)))
set_option maxRecDepth 20000 in
theorem ksX11_letters {l : Launch} {G : Gt} {n0 u0 : Nat} {σ : Hp} {Z : Int32} (x0 : Nat) (x1 : Int32) (h : kX11_letters σ x0 x1 = some Z) : GoC l G RX11 "letters" cX11_letters 2 (some .int) 1 24 n0 u0 (some (.int Z)) σ 0 [(0, G.rv x0), (1, .int x1)] [] σ := by
  unfold kX11_letters at h
  refine GC.aload_n 0 dX11_letters_0 rfl ?_
  refine GC.getr 11 1 rfl (by decide) (by decide) fw_X11_19 (Or.inl rfl) dX11_letters_1 h (fun v1 h => ?_)
  refine GoC.iload_n 1 dX11_letters_4 rfl ?_
  obtain ⟨h0, h⟩ := ckd_some h
  obtain ⟨v2, hq, h⟩ := Option.bind_eq_some_iff.mp h
  refine GC.callvI (rest := []) 2 rfl h0 rfl [.int x1] dX11_letters_5 kk_X11_139 km_X2_lettersIn.1 km_X2_lettersIn.2 (ktX2_lettersIn _ _ _ hq) rfl rfl (Nat.le_of_ble_eq_true rfl) (Nat.le_of_ble_eq_true rfl) trivial (Nat.le_of_ble_eq_true rfl) ?_
  cases h
  exact GoC.iret dX11_letters_8 rfl
set_option maxRecDepth 20000 in
theorem ktX11_letters {l : Launch} {G : Gt} {σ : Hp} (x0 : Nat) (x1 : Int32) : ∀ Z, kX11_letters σ x0 x1 = some Z → MtC l G yX11_letters cX11_letters 2 (some .int) 1 24 [G.rv x0, .int x1] σ (some (.int Z)) σ := fun Z h => MtC.at (by decide +kernel) ⟨G.rv_cat _, rfl, trivial⟩ (Nat.le_of_ble_eq_true rfl) (ksX11_letters x0 x1 h)
/-! X11_apart -/
def kX11_apart (σ : Hp) (x0 : Nat) (x1 : Int32) (x2 : Int32) : Option (Int32 × Hp) := (gfr σ 21 1101 x0).bind (fun v1 => ckd σ v1 12 ((kX2_lettersIn σ v1 x1).bind (fun v2 => if v2 = (-1) then some ((-1), σ) else (gfr σ 21 1101 x0).bind (fun v3 => ckd σ v3 12 ((kX2_lettersIn σ v3 x2).bind (fun v4 => if v4 = (-1) then some ((-1), σ) else (gfr σ 21 1101 x0).bind (fun v5 => (gfr σ 21 1100 x0).bind (fun v6 => (gfi σ 17 706 v6).bind (fun v7 => ckd σ v5 12 (bd2 (kX2_between σ v5 v7 x1 x2) (fun v8 σ9 => some (v8, σ9))))))))))))
set_option maxRecDepth 20000 in
theorem ksX11_apart {l : Launch} {G : Gt} {n0 u0 : Nat} {σ : Hp} {Z : Int32 × Hp} (x0 : Nat) (x1 : Int32) (x2 : Int32) (h : kX11_apart σ x0 x1 x2 = some Z) : GoC l G RX11 "apart" cX11_apart 3 (some .int) 2 50 n0 u0 (some (.int Z.1)) Z.2 0 [(0, G.rv x0), (1, .int x1), (2, .int x2)] [] σ := by
  unfold kX11_apart at h
  refine GC.aload_n 0 dX11_apart_0 rfl ?_
  refine GC.getr 11 1 rfl (by decide) (by decide) fw_X11_19 (Or.inl rfl) dX11_apart_1 h (fun v1 h => ?_)
  refine GoC.iload_n 1 dX11_apart_4 rfl ?_
  obtain ⟨h0, h⟩ := ckd_some h
  obtain ⟨v2, hq, h⟩ := Option.bind_eq_some_iff.mp h
  refine GC.callvI (rest := []) 2 rfl h0 rfl [.int x1] dX11_apart_5 kk_X11_139 km_X2_lettersIn.1 km_X2_lettersIn.2 (ktX2_lettersIn _ _ _ hq) rfl rfl (Nat.le_of_ble_eq_true rfl) (Nat.le_of_ble_eq_true rfl) trivial (Nat.le_of_ble_eq_true rfl) ?_
  refine GoC.iconst (-1) dX11_apart_8 (by decide) ?_
  refine GoC.icmp_eq 24 dX11_apart_9 (by decide) h (fun h => ?_) (fun h => ?_)
  · refine GoC.iconst (-1) dX11_apart_24 (by decide) ?_
    cases h
    exact GoC.iret dX11_apart_25 rfl
  · refine GC.aload_n 0 dX11_apart_12 rfl ?_
    refine GC.getr 11 1 rfl (by decide) (by decide) fw_X11_19 (Or.inl rfl) dX11_apart_13 h (fun v3 h => ?_)
    refine GoC.iload_n 2 dX11_apart_16 rfl ?_
    obtain ⟨h0, h⟩ := ckd_some h
    obtain ⟨v4, hq, h⟩ := Option.bind_eq_some_iff.mp h
    refine GC.callvI (rest := []) 2 rfl h0 rfl [.int x2] dX11_apart_17 kk_X11_139 km_X2_lettersIn.1 km_X2_lettersIn.2 (ktX2_lettersIn _ _ _ hq) rfl rfl (Nat.le_of_ble_eq_true rfl) (Nat.le_of_ble_eq_true rfl) trivial (Nat.le_of_ble_eq_true rfl) ?_
    refine GoC.iconst (-1) dX11_apart_20 (by decide) ?_
    refine GoC.icmp_ne 26 dX11_apart_21 (by decide) h (fun h => ?_) (fun h => ?_)
    · refine GC.aload_n 0 dX11_apart_26 rfl ?_
      refine GC.getr 11 1 rfl (by decide) (by decide) fw_X11_19 (Or.inl rfl) dX11_apart_27 h (fun v5 h => ?_)
      refine GC.aload_n 0 dX11_apart_30 rfl ?_
      refine GC.getr 11 0 rfl (by decide) (by decide) fw_X11_12 (Or.inl rfl) dX11_apart_31 h (fun v6 h => ?_)
      refine GC.geti 7 6 rfl (by decide) (by decide) fw_X11_110 (Or.inl rfl) dX11_apart_34 h (fun v7 h => ?_)
      refine GoC.iload_n 1 dX11_apart_37 rfl ?_
      refine GoC.iload_n 2 dX11_apart_38 rfl ?_
      obtain ⟨h0, h⟩ := ckd_some h
      obtain ⟨v8, σ9, hq, h⟩ := bd2_some h
      refine GC.callvI (rest := []) 2 rfl h0 rfl [.int v7, .int x1, .int x2] dX11_apart_39 kk_X11_217 km_X2_between.1 km_X2_between.2 (ktX2_between _ _ _ _ _ hq) rfl rfl (Nat.le_of_ble_eq_true rfl) (Nat.le_of_ble_eq_true rfl) trivial (Nat.le_of_ble_eq_true rfl) ?_
      cases h
      exact GoC.iret dX11_apart_42 rfl
    · refine GoC.iconst (-1) dX11_apart_24 (by decide) ?_
      cases h
      exact GoC.iret dX11_apart_25 rfl
set_option maxRecDepth 20000 in
theorem ktX11_apart {l : Launch} {G : Gt} {σ : Hp} (x0 : Nat) (x1 : Int32) (x2 : Int32) : ∀ Z, kX11_apart σ x0 x1 x2 = some Z → MtC l G yX11_apart cX11_apart 3 (some .int) 2 50 [G.rv x0, .int x1, .int x2] σ (some (.int Z.1)) Z.2 := fun Z h => MtC.at (by decide +kernel) ⟨G.rv_cat _, rfl, rfl, trivial⟩ (Nat.le_of_ble_eq_true rfl) (ksX11_apart x0 x1 x2 h)
/-! X11_far -/
def kX11_far (σ : Hp) (x0 : Nat) (x1 : Int32) (x2 : Int32) : Option (Int32) := (gfr σ 21 1100 x0).bind (fun v1 => ckd σ v1 17 ((kX7_has σ v1 x1).bind (fun v2 => if v2 = 0 then some (-1) else (gfr σ 21 1100 x0).bind (fun v3 => ckd σ v3 17 ((kX7_has σ v3 x2).bind (fun v4 => if v4 = 0 then some (-1) else (gfr σ 21 1102 x0).bind (fun v5 => ckd σ v5 11 ((kX1_of σ v5 x1 x2).bind (fun v6 => some v6)))))))))
set_option maxRecDepth 20000 in
theorem ksX11_far {l : Launch} {G : Gt} {n0 u0 : Nat} {σ : Hp} {Z : Int32} (x0 : Nat) (x1 : Int32) (x2 : Int32) (h : kX11_far σ x0 x1 x2 = some Z) : GoC l G RX11 "far" cX11_far 3 (some .int) 1 22 n0 u0 (some (.int Z)) σ 0 [(0, G.rv x0), (1, .int x1), (2, .int x2)] [] σ := by
  unfold kX11_far at h
  refine GC.aload_n 0 dX11_far_0 rfl ?_
  refine GC.getr 11 0 rfl (by decide) (by decide) fw_X11_12 (Or.inl rfl) dX11_far_1 h (fun v1 h => ?_)
  refine GoC.iload_n 1 dX11_far_4 rfl ?_
  obtain ⟨h0, h⟩ := ckd_some h
  obtain ⟨v2, hq, h⟩ := Option.bind_eq_some_iff.mp h
  refine GC.callvI (rest := []) 7 rfl h0 rfl [.int x1] dX11_far_5 kk_X11_101 km_X7_has.1 km_X7_has.2 (ktX7_has _ _ _ hq) rfl rfl (Nat.le_of_ble_eq_true rfl) (Nat.le_of_ble_eq_true rfl) trivial (Nat.le_of_ble_eq_true rfl) ?_
  refine GoC.if_eq 34 dX11_far_8 (by decide) h (fun h => ?_) (fun h => ?_)
  · refine GoC.iconst (-1) dX11_far_34 (by decide) ?_
    cases h
    exact GoC.iret dX11_far_35 rfl
  · refine GC.aload_n 0 dX11_far_11 rfl ?_
    refine GC.getr 11 0 rfl (by decide) (by decide) fw_X11_12 (Or.inl rfl) dX11_far_12 h (fun v3 h => ?_)
    refine GoC.iload_n 2 dX11_far_15 rfl ?_
    obtain ⟨h0, h⟩ := ckd_some h
    obtain ⟨v4, hq, h⟩ := Option.bind_eq_some_iff.mp h
    refine GC.callvI (rest := []) 7 rfl h0 rfl [.int x2] dX11_far_16 kk_X11_101 km_X7_has.1 km_X7_has.2 (ktX7_has _ _ _ hq) rfl rfl (Nat.le_of_ble_eq_true rfl) (Nat.le_of_ble_eq_true rfl) trivial (Nat.le_of_ble_eq_true rfl) ?_
    refine GoC.if_eq 34 dX11_far_19 (by decide) h (fun h => ?_) (fun h => ?_)
    · refine GoC.iconst (-1) dX11_far_34 (by decide) ?_
      cases h
      exact GoC.iret dX11_far_35 rfl
    · refine GC.aload_n 0 dX11_far_22 rfl ?_
      refine GC.getr 11 2 rfl (by decide) (by decide) fw_X11_28 (Or.inl rfl) dX11_far_23 h (fun v5 h => ?_)
      refine GoC.iload_n 1 dX11_far_26 rfl ?_
      refine GoC.iload_n 2 dX11_far_27 rfl ?_
      obtain ⟨h0, h⟩ := ckd_some h
      obtain ⟨v6, hq, h⟩ := Option.bind_eq_some_iff.mp h
      refine GC.callvI (rest := []) 1 rfl h0 rfl [.int x1, .int x2] dX11_far_28 kk_X11_221 km_X1_of.1 km_X1_of.2 (ktX1_of _ _ _ _ hq) rfl rfl (Nat.le_of_ble_eq_true rfl) (Nat.le_of_ble_eq_true rfl) trivial (Nat.le_of_ble_eq_true rfl) ?_
      refine GoC.goto 35 dX11_far_31 (by decide) ?_
      cases h
      exact GoC.iret dX11_far_35 rfl
set_option maxRecDepth 20000 in
theorem ktX11_far {l : Launch} {G : Gt} {σ : Hp} (x0 : Nat) (x1 : Int32) (x2 : Int32) : ∀ Z, kX11_far σ x0 x1 x2 = some Z → MtC l G yX11_far cX11_far 3 (some .int) 1 22 [G.rv x0, .int x1, .int x2] σ (some (.int Z)) σ := fun Z h => MtC.at (by decide +kernel) ⟨G.rv_cat _, rfl, rfl, trivial⟩ (Nat.le_of_ble_eq_true rfl) (ksX11_far x0 x1 x2 h)
/-! X11_page -/
def kX11_page (σ : Hp) (x0 : Nat) (x1 : Int32) (x2 : Int32) : Option (Int32 × Hp) := (gfr σ 21 1104 x0).bind (fun v1 => ckd σ v1 20 (bd2 (kX10_pageAt σ v1 x1) (fun v2 σ3 => if v2 = 0 then some ((-2), σ3) else if x2 = 0 then (gfi σ3 13 300 v2).bind (fun v4 => if v4 = 0 then some (0, σ3) else some (1, σ3)) else if x2 = 1 then (gfi σ3 13 302 v2).bind (fun v5 => some (v5, σ3)) else if x2 = 2 then (gfi σ3 13 301 v2).bind (fun v6 => some (v6, σ3)) else if x2 = 3 then (gfi σ3 13 309 v2).bind (fun v7 => some (v7, σ3)) else if x2 = 4 then (gfi σ3 13 308 v2).bind (fun v8 => some (v8, σ3)) else if x2 = 5 then (gfi σ3 13 310 v2).bind (fun v9 => some (v9, σ3)) else some ((-2), σ3))))
set_option maxRecDepth 20000 in
theorem ksX11_page {l : Launch} {G : Gt} {n0 u0 : Nat} {σ : Hp} {Z : Int32 × Hp} (x0 : Nat) (x1 : Int32) (x2 : Int32) (h : kX11_page σ x0 x1 x2 = some Z) : GoC l G RX11 "page" cX11_page 4 (some .int) 9 226 n0 u0 (some (.int Z.1)) Z.2 0 [(0, G.rv x0), (1, .int x1), (2, .int x2)] [] σ := by
  unfold kX11_page at h
  refine GC.aload_n 0 dX11_page_0 rfl ?_
  refine GC.getr 11 4 rfl (by decide) (by decide) fw_X11_44 (Or.inl rfl) dX11_page_1 h (fun v1 h => ?_)
  refine GoC.iload_n 1 dX11_page_4 rfl ?_
  obtain ⟨h0, h⟩ := ckd_some h
  obtain ⟨v2, σ3, hq, h⟩ := bd2_some h
  refine GC.callvR (rest := []) 10 rfl h0 rfl [.int x1] dX11_page_5 kk_X11_224 km_X10_pageAt.1 km_X10_pageAt.2 (ktX10_pageAt _ _ _ hq) rfl rfl (Nat.le_of_ble_eq_true rfl) (Nat.le_of_ble_eq_true rfl) trivial (Nat.le_of_ble_eq_true rfl) ?_
  refine GC.astore_n [(0, G.rv x0), (1, .int x1), (2, .int x2), (3, G.rv v2)] dX11_page_8 (by decide) rfl ?_
  refine GC.aload_n 3 dX11_page_9 rfl ?_
  refine GC.ifnonnull 16 dX11_page_10 (by decide) h (fun h => ?_) (fun h => ?_)
  · refine GoC.iload_n 2 dX11_page_16 rfl ?_
    by_cases cc0 : x2 = 0
    · rw [if_pos cc0] at h
      refine GoC.tabIn 56 0 cc0 dX11_page_17 (by decide) (by decide) rfl (by decide) ?_
      refine GC.aload_n 3 dX11_page_56 rfl ?_
      refine GC.geti 3 0 rfl (by decide) (by decide) fw_X11_228 (Or.inl rfl) dX11_page_57 h (fun v4 h => ?_)
      refine GoC.if_eq 67 dX11_page_60 (by decide) h (fun h => ?_) (fun h => ?_)
      · refine GoC.iconst 0 dX11_page_67 (by decide) ?_
        cases h
        exact GoC.iret dX11_page_68 rfl
      · refine GoC.iconst 1 dX11_page_63 (by decide) ?_
        refine GoC.goto 68 dX11_page_64 (by decide) ?_
        cases h
        exact GoC.iret dX11_page_68 rfl
    rw [if_neg cc0] at h
    by_cases cc1 : x2 = 1
    · rw [if_pos cc1] at h
      refine GoC.tabIn 69 1 cc1 dX11_page_17 (by decide) (by decide) rfl (by decide) ?_
      refine GC.aload_n 3 dX11_page_69 rfl ?_
      refine GC.geti 3 2 rfl (by decide) (by decide) fw_X11_234 (Or.inl rfl) dX11_page_70 h (fun v5 h => ?_)
      cases h
      exact GoC.iret dX11_page_73 rfl
    rw [if_neg cc1] at h
    by_cases cc2 : x2 = 2
    · rw [if_pos cc2] at h
      refine GoC.tabIn 74 2 cc2 dX11_page_17 (by decide) (by decide) rfl (by decide) ?_
      refine GC.aload_n 3 dX11_page_74 rfl ?_
      refine GC.geti 3 1 rfl (by decide) (by decide) fw_X11_235 (Or.inl rfl) dX11_page_75 h (fun v6 h => ?_)
      cases h
      exact GoC.iret dX11_page_78 rfl
    rw [if_neg cc2] at h
    by_cases cc3 : x2 = 3
    · rw [if_pos cc3] at h
      refine GoC.tabIn 79 3 cc3 dX11_page_17 (by decide) (by decide) rfl (by decide) ?_
      refine GC.aload_n 3 dX11_page_79 rfl ?_
      refine GC.geti 3 9 rfl (by decide) (by decide) fw_X11_238 (Or.inl rfl) dX11_page_80 h (fun v7 h => ?_)
      cases h
      exact GoC.iret dX11_page_83 rfl
    rw [if_neg cc3] at h
    by_cases cc4 : x2 = 4
    · rw [if_pos cc4] at h
      refine GoC.tabIn 84 4 cc4 dX11_page_17 (by decide) (by decide) rfl (by decide) ?_
      refine GC.aload_n 3 dX11_page_84 rfl ?_
      refine GC.geti 3 8 rfl (by decide) (by decide) fw_X11_241 (Or.inl rfl) dX11_page_85 h (fun v8 h => ?_)
      cases h
      exact GoC.iret dX11_page_88 rfl
    rw [if_neg cc4] at h
    by_cases cc5 : x2 = 5
    · rw [if_pos cc5] at h
      refine GoC.tabIn 89 5 cc5 dX11_page_17 (by decide) (by decide) rfl (by decide) ?_
      refine GC.aload_n 3 dX11_page_89 rfl ?_
      refine GC.geti 3 10 rfl (by decide) (by decide) fw_X11_244 (Or.inl rfl) dX11_page_90 h (fun v9 h => ?_)
      cases h
      exact GoC.iret dX11_page_93 rfl
    rw [if_neg cc5] at h
    refine GoC.tabOut 94 dX11_page_17 (sw_out (0) 6 (by decide) (fun k hk => match k, hk with | 0, _ => cc0 | 1, _ => cc1 | 2, _ => cc2 | 3, _ => cc3 | 4, _ => cc4 | 5, _ => cc5 | (k + 6), hk => absurd hk (by omega)) _ rfl) (by decide) ?_
    refine GoC.bipush (-2) dX11_page_94 (by decide) ?_
    cases h
    exact GoC.iret dX11_page_96 rfl
  · refine GoC.bipush (-2) dX11_page_13 (by decide) ?_
    cases h
    exact GoC.iret dX11_page_15 rfl
set_option maxRecDepth 20000 in
theorem ktX11_page {l : Launch} {G : Gt} {σ : Hp} (x0 : Nat) (x1 : Int32) (x2 : Int32) : ∀ Z, kX11_page σ x0 x1 x2 = some Z → MtC l G yX11_page cX11_page 4 (some .int) 9 226 [G.rv x0, .int x1, .int x2] σ (some (.int Z.1)) Z.2 := fun Z h => MtC.at (by decide +kernel) ⟨G.rv_cat _, rfl, rfl, trivial⟩ (Nat.le_of_ble_eq_true rfl) (ksX11_page x0 x1 x2 h)
/-! X11_entry -/
def kX11_entry (σ : Hp) (x0 : Nat) (x1 : Int32) (x2 : Int32) (x3 : Int32) : Option (Int32 × Hp) := (gfr σ 21 1104 x0).bind (fun v1 => ckd σ v1 20 (bd2 (kX10_pageAt σ v1 x1) (fun v2 σ3 => if v2 = 0 then some ((-2), σ3) else if x2 < 0 then some ((-2), σ3) else (gfi σ3 13 302 v2).bind (fun v4 => if x2 < v4 then if x3 = 0 then (gfr σ3 13 303 v2).bind (fun v5 => (ald σ3 1 v5 x2).bind (fun v6 => some (v6, σ3))) else if x3 = 1 then (gfr σ3 13 304 v2).bind (fun v7 => (ald σ3 1 v7 x2).bind (fun v8 => some (v8, σ3))) else if x3 = 2 then (gfr σ3 21 1102 x0).bind (fun v9 => ckd σ3 v9 11 ((kX1_wayOf σ3 v9 v2 x2).bind (fun v10 => some (v10, σ3)))) else if x3 = 3 then (gfi σ3 13 300 v2).bind (fun v11 => if v11 = 0 then (gfr σ3 21 1100 x0).bind (fun v12 => (gfr σ3 13 305 v2).bind (fun v13 => (ald σ3 1 v13 x2).bind (fun v14 => ckd σ3 v12 17 ((kX7_at σ3 v12 v14).bind (fun v15 => (gfi σ3 13 306 v15).bind (fun v16 => some (v16, σ3))))))) else some ((-1), σ3)) else some ((-2), σ3) else some ((-2), σ3)))))
set_option maxRecDepth 20000 in
theorem ksX11_entry {l : Launch} {G : Gt} {n0 u0 : Nat} {σ : Hp} {Z : Int32 × Hp} (x0 : Nat) (x1 : Int32) (x2 : Int32) (x3 : Int32) (h : kX11_entry σ x0 x1 x2 x3 = some Z) : GoC l G RX11 "entry" cX11_entry 5 (some .int) 9 226 n0 u0 (some (.int Z.1)) Z.2 0 [(0, G.rv x0), (1, .int x1), (2, .int x2), (3, .int x3)] [] σ := by
  unfold kX11_entry at h
  refine GC.aload_n 0 dX11_entry_0 rfl ?_
  refine GC.getr 11 4 rfl (by decide) (by decide) fw_X11_44 (Or.inl rfl) dX11_entry_1 h (fun v1 h => ?_)
  refine GoC.iload_n 1 dX11_entry_4 rfl ?_
  obtain ⟨h0, h⟩ := ckd_some h
  obtain ⟨v2, σ3, hq, h⟩ := bd2_some h
  refine GC.callvR (rest := []) 10 rfl h0 rfl [.int x1] dX11_entry_5 kk_X11_224 km_X10_pageAt.1 km_X10_pageAt.2 (ktX10_pageAt _ _ _ hq) rfl rfl (Nat.le_of_ble_eq_true rfl) (Nat.le_of_ble_eq_true rfl) trivial (Nat.le_of_ble_eq_true rfl) ?_
  refine GC.astore [(0, G.rv x0), (1, .int x1), (2, .int x2), (3, .int x3), (4, G.rv v2)] dX11_entry_8 (by decide) rfl ?_
  refine GC.aload 4 dX11_entry_10 rfl ?_
  refine GC.ifnull 28 dX11_entry_12 (by decide) h (fun h => ?_) (fun h => ?_)
  · refine GoC.bipush (-2) dX11_entry_28 (by decide) ?_
    cases h
    exact GoC.iret dX11_entry_30 rfl
  · refine GoC.iload_n 2 dX11_entry_15 rfl ?_
    refine GoC.if_lt 28 dX11_entry_16 (by decide) h (fun h => ?_) (fun h => ?_)
    · refine GoC.bipush (-2) dX11_entry_28 (by decide) ?_
      cases h
      exact GoC.iret dX11_entry_30 rfl
    · refine GoC.iload_n 2 dX11_entry_19 rfl ?_
      refine GC.aload 4 dX11_entry_20 rfl ?_
      refine GC.geti 3 2 rfl (by decide) (by decide) fw_X11_234 (Or.inl rfl) dX11_entry_22 h (fun v4 h => ?_)
      refine GoC.icmp_lt 31 dX11_entry_25 (by decide) h (fun h => ?_) (fun h => ?_)
      · refine GoC.iload_n 3 dX11_entry_31 rfl ?_
        by_cases cc0 : x3 = 0
        · rw [if_pos cc0] at h
          refine GoC.tabIn 64 0 cc0 dX11_entry_32 (by decide) (by decide) rfl (by decide) ?_
          refine GC.aload 4 dX11_entry_64 rfl ?_
          refine GC.getr 3 3 rfl (by decide) (by decide) fw_X11_247 (Or.inl rfl) dX11_entry_66 h (fun v5 h => ?_)
          refine GoC.iload_n 2 dX11_entry_69 rfl ?_
          refine GC.iald dX11_entry_70 h (fun v6 h => ?_)
          cases h
          exact GoC.iret dX11_entry_71 rfl
        rw [if_neg cc0] at h
        by_cases cc1 : x3 = 1
        · rw [if_pos cc1] at h
          refine GoC.tabIn 72 1 cc1 dX11_entry_32 (by decide) (by decide) rfl (by decide) ?_
          refine GC.aload 4 dX11_entry_72 rfl ?_
          refine GC.getr 3 4 rfl (by decide) (by decide) fw_X11_250 (Or.inl rfl) dX11_entry_74 h (fun v7 h => ?_)
          refine GoC.iload_n 2 dX11_entry_77 rfl ?_
          refine GC.iald dX11_entry_78 h (fun v8 h => ?_)
          cases h
          exact GoC.iret dX11_entry_79 rfl
        rw [if_neg cc1] at h
        by_cases cc2 : x3 = 2
        · rw [if_pos cc2] at h
          refine GoC.tabIn 80 2 cc2 dX11_entry_32 (by decide) (by decide) rfl (by decide) ?_
          refine GC.aload_n 0 dX11_entry_80 rfl ?_
          refine GC.getr 11 2 rfl (by decide) (by decide) fw_X11_28 (Or.inl rfl) dX11_entry_81 h (fun v9 h => ?_)
          refine GC.aload 4 dX11_entry_84 rfl ?_
          refine GoC.iload_n 2 dX11_entry_86 rfl ?_
          obtain ⟨h0, h⟩ := ckd_some h
          obtain ⟨v10, hq, h⟩ := Option.bind_eq_some_iff.mp h
          refine GC.callvI (rest := []) 1 rfl h0 rfl [G.rv v2, .int x2] dX11_entry_87 kk_X11_253 km_X1_wayOf.1 km_X1_wayOf.2 (ktX1_wayOf _ _ _ _ hq) rfl rfl (Nat.le_of_ble_eq_true rfl) (Nat.le_of_ble_eq_true rfl) trivial (Nat.le_of_ble_eq_true rfl) ?_
          cases h
          exact GoC.iret dX11_entry_90 rfl
        rw [if_neg cc2] at h
        by_cases cc3 : x3 = 3
        · rw [if_pos cc3] at h
          refine GoC.tabIn 91 3 cc3 dX11_entry_32 (by decide) (by decide) rfl (by decide) ?_
          refine GC.aload 4 dX11_entry_91 rfl ?_
          refine GC.geti 3 0 rfl (by decide) (by decide) fw_X11_228 (Or.inl rfl) dX11_entry_93 h (fun v11 h => ?_)
          refine GoC.if_eq 103 dX11_entry_96 (by decide) h (fun h => ?_) (fun h => ?_)
          · refine GC.aload_n 0 dX11_entry_103 rfl ?_
            refine GC.getr 11 0 rfl (by decide) (by decide) fw_X11_12 (Or.inl rfl) dX11_entry_104 h (fun v12 h => ?_)
            refine GC.aload 4 dX11_entry_107 rfl ?_
            refine GC.getr 3 5 rfl (by decide) (by decide) fw_X11_257 (Or.inl rfl) dX11_entry_109 h (fun v13 h => ?_)
            refine GoC.iload_n 2 dX11_entry_112 rfl ?_
            refine GC.iald dX11_entry_113 h (fun v14 h => ?_)
            obtain ⟨h0, h⟩ := ckd_some h
            obtain ⟨v15, hq, h⟩ := Option.bind_eq_some_iff.mp h
            refine GC.callvR (rest := []) 7 rfl h0 rfl [.int v14] dX11_entry_114 kk_X11_260 km_X7_at.1 km_X7_at.2 (ktX7_at _ _ _ hq) rfl rfl (Nat.le_of_ble_eq_true rfl) (Nat.le_of_ble_eq_true rfl) trivial (Nat.le_of_ble_eq_true rfl) ?_
            refine GC.geti 3 6 rfl (by decide) (by decide) fw_X11_263 (Or.inl rfl) dX11_entry_117 h (fun v16 h => ?_)
            cases h
            exact GoC.iret dX11_entry_120 rfl
          · refine GoC.iconst (-1) dX11_entry_99 (by decide) ?_
            refine GoC.goto 120 dX11_entry_100 (by decide) ?_
            cases h
            exact GoC.iret dX11_entry_120 rfl
        rw [if_neg cc3] at h
        refine GoC.tabOut 121 dX11_entry_32 (sw_out (0) 4 (by decide) (fun k hk => match k, hk with | 0, _ => cc0 | 1, _ => cc1 | 2, _ => cc2 | 3, _ => cc3 | (k + 4), hk => absurd hk (by omega)) _ rfl) (by decide) ?_
        refine GoC.bipush (-2) dX11_entry_121 (by decide) ?_
        cases h
        exact GoC.iret dX11_entry_123 rfl
      · refine GoC.bipush (-2) dX11_entry_28 (by decide) ?_
        cases h
        exact GoC.iret dX11_entry_30 rfl
set_option maxRecDepth 20000 in
theorem ktX11_entry {l : Launch} {G : Gt} {σ : Hp} (x0 : Nat) (x1 : Int32) (x2 : Int32) (x3 : Int32) : ∀ Z, kX11_entry σ x0 x1 x2 x3 = some Z → MtC l G yX11_entry cX11_entry 5 (some .int) 9 226 [G.rv x0, .int x1, .int x2, .int x3] σ (some (.int Z.1)) Z.2 := fun Z h => MtC.at (by decide +kernel) ⟨G.rv_cat _, rfl, rfl, rfl, trivial⟩ (Nat.le_of_ble_eq_true rfl) (ksX11_entry x0 x1 x2 x3 h)
/-! X11_leafOf -/
def kX11_leafOf (σ : Hp) (x0 : Nat) (x1 : Int32) : Option (Int32 × Hp) := (gfr σ 21 1100 x0).bind (fun v1 => ckd σ v1 17 ((kX7_has σ v1 x1).bind (fun v2 => if v2 = 0 then some ((-1), σ) else (gfr σ 21 1104 x0).bind (fun v3 => ckd σ v3 20 (bd2 (kX10_placeOfLeaf σ v3 x1) (fun v4 σ5 => some (v4, σ5)))))))
set_option maxRecDepth 20000 in
theorem ksX11_leafOf {l : Launch} {G : Gt} {n0 u0 : Nat} {σ : Hp} {Z : Int32 × Hp} (x0 : Nat) (x1 : Int32) (h : kX11_leafOf σ x0 x1 = some Z) : GoC l G RX11 "leafOf" cX11_leafOf 2 (some .int) 9 228 n0 u0 (some (.int Z.1)) Z.2 0 [(0, G.rv x0), (1, .int x1)] [] σ := by
  unfold kX11_leafOf at h
  refine GC.aload_n 0 dX11_leafOf_0 rfl ?_
  refine GC.getr 11 0 rfl (by decide) (by decide) fw_X11_12 (Or.inl rfl) dX11_leafOf_1 h (fun v1 h => ?_)
  refine GoC.iload_n 1 dX11_leafOf_4 rfl ?_
  obtain ⟨h0, h⟩ := ckd_some h
  obtain ⟨v2, hq, h⟩ := Option.bind_eq_some_iff.mp h
  refine GC.callvI (rest := []) 7 rfl h0 rfl [.int x1] dX11_leafOf_5 kk_X11_101 km_X7_has.1 km_X7_has.2 (ktX7_has _ _ _ hq) rfl rfl (Nat.le_of_ble_eq_true rfl) (Nat.le_of_ble_eq_true rfl) trivial (Nat.le_of_ble_eq_true rfl) ?_
  refine GoC.if_eq 22 dX11_leafOf_8 (by decide) h (fun h => ?_) (fun h => ?_)
  · refine GoC.iconst (-1) dX11_leafOf_22 (by decide) ?_
    cases h
    exact GoC.iret dX11_leafOf_23 rfl
  · refine GC.aload_n 0 dX11_leafOf_11 rfl ?_
    refine GC.getr 11 4 rfl (by decide) (by decide) fw_X11_44 (Or.inl rfl) dX11_leafOf_12 h (fun v3 h => ?_)
    refine GoC.iload_n 1 dX11_leafOf_15 rfl ?_
    obtain ⟨h0, h⟩ := ckd_some h
    obtain ⟨v4, σ5, hq, h⟩ := bd2_some h
    refine GC.callvI (rest := []) 10 rfl h0 rfl [.int x1] dX11_leafOf_16 kk_X11_266 km_X10_placeOfLeaf.1 km_X10_placeOfLeaf.2 (ktX10_placeOfLeaf _ _ _ hq) rfl rfl (Nat.le_of_ble_eq_true rfl) (Nat.le_of_ble_eq_true rfl) trivial (Nat.le_of_ble_eq_true rfl) ?_
    refine GoC.goto 23 dX11_leafOf_19 (by decide) ?_
    cases h
    exact GoC.iret dX11_leafOf_23 rfl
set_option maxRecDepth 20000 in
theorem ktX11_leafOf {l : Launch} {G : Gt} {σ : Hp} (x0 : Nat) (x1 : Int32) : ∀ Z, kX11_leafOf σ x0 x1 = some Z → MtC l G yX11_leafOf cX11_leafOf 2 (some .int) 9 228 [G.rv x0, .int x1] σ (some (.int Z.1)) Z.2 := fun Z h => MtC.at (by decide +kernel) ⟨G.rv_cat _, rfl, trivial⟩ (Nat.le_of_ble_eq_true rfl) (ksX11_leafOf x0 x1 h)
/-! X11_within -/
def kX11_within (σ : Hp) (x0 : Nat) (x1 : Int32) (x2 : Int32) (x3 : Int32) : Option (Int32 × Hp) := (gfr σ 21 1101 x0).bind (fun v1 => ckd σ v1 12 ((kX2_lettersIn σ v1 x1).bind (fun v2 => if v2 = (-1) then some ((-1), σ) else (kX11_isFar σ x2).bind (fun v3 => if v3 = 0 then some ((-1), σ) else (gfr σ 21 1105 x0).bind (fun v4 => ckd σ v4 16 (bd2 (kX6_run σ v4 0 x1 (-1) x2) (fun v5 σ6 => (gfr σ6 21 1105 x0).bind (fun v7 => ckd σ6 v7 16 ((kX6_answer σ6 v7 x3).bind (fun v8 => some (v8, σ6)))))))))))
set_option maxRecDepth 20000 in
theorem ksX11_within {l : Launch} {G : Gt} {n0 u0 : Nat} {σ : Hp} {Z : Int32 × Hp} (x0 : Nat) (x1 : Int32) (x2 : Int32) (x3 : Int32) (h : kX11_within σ x0 x1 x2 x3 = some Z) : GoC l G RX11 "within" cX11_within 4 (some .int) 6 135 n0 u0 (some (.int Z.1)) Z.2 0 [(0, G.rv x0), (1, .int x1), (2, .int x2), (3, .int x3)] [] σ := by
  unfold kX11_within at h
  refine GC.aload_n 0 dX11_within_0 rfl ?_
  refine GC.getr 11 1 rfl (by decide) (by decide) fw_X11_19 (Or.inl rfl) dX11_within_1 h (fun v1 h => ?_)
  refine GoC.iload_n 1 dX11_within_4 rfl ?_
  obtain ⟨h0, h⟩ := ckd_some h
  obtain ⟨v2, hq, h⟩ := Option.bind_eq_some_iff.mp h
  refine GC.callvI (rest := []) 2 rfl h0 rfl [.int x1] dX11_within_5 kk_X11_139 km_X2_lettersIn.1 km_X2_lettersIn.2 (ktX2_lettersIn _ _ _ hq) rfl rfl (Nat.le_of_ble_eq_true rfl) (Nat.le_of_ble_eq_true rfl) trivial (Nat.le_of_ble_eq_true rfl) ?_
  refine GoC.iconst (-1) dX11_within_8 (by decide) ?_
  refine GoC.icmp_eq 19 dX11_within_9 (by decide) h (fun h => ?_) (fun h => ?_)
  · refine GoC.iconst (-1) dX11_within_19 (by decide) ?_
    cases h
    exact GoC.iret dX11_within_20 rfl
  · refine GoC.iload_n 2 dX11_within_12 rfl ?_
    obtain ⟨v3, hq, h⟩ := Option.bind_eq_some_iff.mp h
    refine GC.callsI (rest := []) [.int x2] dX11_within_13 kk_X11_123 km_X11_isFar (ktX11_isFar _ _ hq) rfl rfl (Nat.le_of_ble_eq_true rfl) (Nat.le_of_ble_eq_true rfl) trivial (Nat.le_of_ble_eq_true rfl) ?_
    refine GoC.if_ne 21 dX11_within_16 (by decide) h (fun h => ?_) (fun h => ?_)
    · refine GC.aload_n 0 dX11_within_21 rfl ?_
      refine GC.getr 11 5 rfl (by decide) (by decide) fw_X11_53 (Or.inl rfl) dX11_within_22 h (fun v4 h => ?_)
      refine GoC.iconst 0 dX11_within_25 (by decide) ?_
      refine GoC.iload_n 1 dX11_within_26 rfl ?_
      refine GoC.iconst (-1) dX11_within_27 (by decide) ?_
      refine GoC.iload_n 2 dX11_within_28 rfl ?_
      obtain ⟨h0, h⟩ := ckd_some h
      obtain ⟨v5, σ6, hq, h⟩ := bd2_some h
      refine GC.callvI (rest := []) 6 rfl h0 rfl [.int 0, .int x1, .int (-1), .int x2] dX11_within_29 kk_X11_269 km_X6_run.1 km_X6_run.2 (ktX6_run _ _ _ _ _ _ hq) rfl rfl (Nat.le_of_ble_eq_true rfl) (Nat.le_of_ble_eq_true rfl) trivial (Nat.le_of_ble_eq_true rfl) ?_
      refine GoC.pop dX11_within_32 (rfl) ?_
      refine GC.aload_n 0 dX11_within_33 rfl ?_
      refine GC.getr 11 5 rfl (by decide) (by decide) fw_X11_53 (Or.inl rfl) dX11_within_34 h (fun v7 h => ?_)
      refine GoC.iload_n 3 dX11_within_37 rfl ?_
      obtain ⟨h0, h⟩ := ckd_some h
      obtain ⟨v8, hq, h⟩ := Option.bind_eq_some_iff.mp h
      refine GC.callvI (rest := []) 6 rfl h0 rfl [.int x3] dX11_within_38 kk_X11_273 km_X6_answer.1 km_X6_answer.2 (ktX6_answer _ _ _ hq) rfl rfl (Nat.le_of_ble_eq_true rfl) (Nat.le_of_ble_eq_true rfl) trivial (Nat.le_of_ble_eq_true rfl) ?_
      cases h
      exact GoC.iret dX11_within_41 rfl
    · refine GoC.iconst (-1) dX11_within_19 (by decide) ?_
      cases h
      exact GoC.iret dX11_within_20 rfl
set_option maxRecDepth 20000 in
theorem ktX11_within {l : Launch} {G : Gt} {σ : Hp} (x0 : Nat) (x1 : Int32) (x2 : Int32) (x3 : Int32) : ∀ Z, kX11_within σ x0 x1 x2 x3 = some Z → MtC l G yX11_within cX11_within 4 (some .int) 6 135 [G.rv x0, .int x1, .int x2, .int x3] σ (some (.int Z.1)) Z.2 := fun Z h => MtC.at (by decide +kernel) ⟨G.rv_cat _, rfl, rfl, rfl, trivial⟩ (Nat.le_of_ble_eq_true rfl) (ksX11_within x0 x1 x2 x3 h)
/-! X11_around -/
def kX11_around (σ : Hp) (x0 : Nat) (x1 : Int32) (x2 : Int32) (x3 : Int32) : Option (Int32 × Hp) := (gfr σ 21 1100 x0).bind (fun v1 => ckd σ v1 17 ((kX7_has σ v1 x1).bind (fun v2 => if v2 = 0 then some ((-1), σ) else (kX11_isFar σ x2).bind (fun v3 => if v3 = 0 then some ((-1), σ) else (gfr σ 21 1105 x0).bind (fun v4 => (gfr σ 21 1100 x0).bind (fun v5 => (gfr σ 17 700 v5).bind (fun v6 => (ald σ 1 v6 x1).bind (fun v7 => ckd σ v4 16 (bd2 (kX6_run σ v4 0 v7 x1 x2) (fun v8 σ9 => (gfr σ9 21 1105 x0).bind (fun v10 => ckd σ9 v10 16 ((kX6_answer σ9 v10 x3).bind (fun v11 => some (v11, σ9))))))))))))))
set_option maxRecDepth 20000 in
theorem ksX11_around {l : Launch} {G : Gt} {n0 u0 : Nat} {σ : Hp} {Z : Int32 × Hp} (x0 : Nat) (x1 : Int32) (x2 : Int32) (x3 : Int32) (h : kX11_around σ x0 x1 x2 x3 = some Z) : GoC l G RX11 "around" cX11_around 4 (some .int) 6 135 n0 u0 (some (.int Z.1)) Z.2 0 [(0, G.rv x0), (1, .int x1), (2, .int x2), (3, .int x3)] [] σ := by
  unfold kX11_around at h
  refine GC.aload_n 0 dX11_around_0 rfl ?_
  refine GC.getr 11 0 rfl (by decide) (by decide) fw_X11_12 (Or.inl rfl) dX11_around_1 h (fun v1 h => ?_)
  refine GoC.iload_n 1 dX11_around_4 rfl ?_
  obtain ⟨h0, h⟩ := ckd_some h
  obtain ⟨v2, hq, h⟩ := Option.bind_eq_some_iff.mp h
  refine GC.callvI (rest := []) 7 rfl h0 rfl [.int x1] dX11_around_5 kk_X11_101 km_X7_has.1 km_X7_has.2 (ktX7_has _ _ _ hq) rfl rfl (Nat.le_of_ble_eq_true rfl) (Nat.le_of_ble_eq_true rfl) trivial (Nat.le_of_ble_eq_true rfl) ?_
  refine GoC.if_eq 18 dX11_around_8 (by decide) h (fun h => ?_) (fun h => ?_)
  · refine GoC.iconst (-1) dX11_around_18 (by decide) ?_
    cases h
    exact GoC.iret dX11_around_19 rfl
  · refine GoC.iload_n 2 dX11_around_11 rfl ?_
    obtain ⟨v3, hq, h⟩ := Option.bind_eq_some_iff.mp h
    refine GC.callsI (rest := []) [.int x2] dX11_around_12 kk_X11_123 km_X11_isFar (ktX11_isFar _ _ hq) rfl rfl (Nat.le_of_ble_eq_true rfl) (Nat.le_of_ble_eq_true rfl) trivial (Nat.le_of_ble_eq_true rfl) ?_
    refine GoC.if_ne 20 dX11_around_15 (by decide) h (fun h => ?_) (fun h => ?_)
    · refine GC.aload_n 0 dX11_around_20 rfl ?_
      refine GC.getr 11 5 rfl (by decide) (by decide) fw_X11_53 (Or.inl rfl) dX11_around_21 h (fun v4 h => ?_)
      refine GoC.iconst 0 dX11_around_24 (by decide) ?_
      refine GC.aload_n 0 dX11_around_25 rfl ?_
      refine GC.getr 11 0 rfl (by decide) (by decide) fw_X11_12 (Or.inl rfl) dX11_around_26 h (fun v5 h => ?_)
      refine GC.getr 7 0 rfl (by decide) (by decide) fw_X11_214 (Or.inl rfl) dX11_around_29 h (fun v6 h => ?_)
      refine GoC.iload_n 1 dX11_around_32 rfl ?_
      refine GC.iald dX11_around_33 h (fun v7 h => ?_)
      refine GoC.iload_n 1 dX11_around_34 rfl ?_
      refine GoC.iload_n 2 dX11_around_35 rfl ?_
      obtain ⟨h0, h⟩ := ckd_some h
      obtain ⟨v8, σ9, hq, h⟩ := bd2_some h
      refine GC.callvI (rest := []) 6 rfl h0 rfl [.int 0, .int v7, .int x1, .int x2] dX11_around_36 kk_X11_269 km_X6_run.1 km_X6_run.2 (ktX6_run _ _ _ _ _ _ hq) rfl rfl (Nat.le_of_ble_eq_true rfl) (Nat.le_of_ble_eq_true rfl) trivial (Nat.le_of_ble_eq_true rfl) ?_
      refine GoC.pop dX11_around_39 (rfl) ?_
      refine GC.aload_n 0 dX11_around_40 rfl ?_
      refine GC.getr 11 5 rfl (by decide) (by decide) fw_X11_53 (Or.inl rfl) dX11_around_41 h (fun v10 h => ?_)
      refine GoC.iload_n 3 dX11_around_44 rfl ?_
      obtain ⟨h0, h⟩ := ckd_some h
      obtain ⟨v11, hq, h⟩ := Option.bind_eq_some_iff.mp h
      refine GC.callvI (rest := []) 6 rfl h0 rfl [.int x3] dX11_around_45 kk_X11_273 km_X6_answer.1 km_X6_answer.2 (ktX6_answer _ _ _ hq) rfl rfl (Nat.le_of_ble_eq_true rfl) (Nat.le_of_ble_eq_true rfl) trivial (Nat.le_of_ble_eq_true rfl) ?_
      cases h
      exact GoC.iret dX11_around_48 rfl
    · refine GoC.iconst (-1) dX11_around_18 (by decide) ?_
      cases h
      exact GoC.iret dX11_around_19 rfl
set_option maxRecDepth 20000 in
theorem ktX11_around {l : Launch} {G : Gt} {σ : Hp} (x0 : Nat) (x1 : Int32) (x2 : Int32) (x3 : Int32) : ∀ Z, kX11_around σ x0 x1 x2 x3 = some Z → MtC l G yX11_around cX11_around 4 (some .int) 6 135 [G.rv x0, .int x1, .int x2, .int x3] σ (some (.int Z.1)) Z.2 := fun Z h => MtC.at (by decide +kernel) ⟨G.rv_cat _, rfl, rfl, rfl, trivial⟩ (Nat.le_of_ble_eq_true rfl) (ksX11_around x0 x1 x2 x3 h)
/-! X11_near -/
def kX11_near (σ : Hp) (x0 : Nat) (x1 : Int32) (x2 : Int32) (x3 : Int32) : Option (Int32 × Hp) := (gfr σ 21 1101 x0).bind (fun v1 => ckd σ v1 12 ((kX2_lettersIn σ v1 x1).bind (fun v2 => if v2 = (-1) then some ((-1), σ) else (kX11_isHowMany σ x2).bind (fun v3 => if v3 = 0 then some ((-1), σ) else (gfr σ 21 1105 x0).bind (fun v4 => ckd σ v4 16 (bd2 (kX6_run σ v4 1 x1 (-1) x2) (fun v5 σ6 => (gfr σ6 21 1105 x0).bind (fun v7 => ckd σ6 v7 16 ((kX6_answer σ6 v7 x3).bind (fun v8 => some (v8, σ6)))))))))))
set_option maxRecDepth 20000 in
theorem ksX11_near {l : Launch} {G : Gt} {n0 u0 : Nat} {σ : Hp} {Z : Int32 × Hp} (x0 : Nat) (x1 : Int32) (x2 : Int32) (x3 : Int32) (h : kX11_near σ x0 x1 x2 x3 = some Z) : GoC l G RX11 "near" cX11_near 4 (some .int) 6 135 n0 u0 (some (.int Z.1)) Z.2 0 [(0, G.rv x0), (1, .int x1), (2, .int x2), (3, .int x3)] [] σ := by
  unfold kX11_near at h
  refine GC.aload_n 0 dX11_near_0 rfl ?_
  refine GC.getr 11 1 rfl (by decide) (by decide) fw_X11_19 (Or.inl rfl) dX11_near_1 h (fun v1 h => ?_)
  refine GoC.iload_n 1 dX11_near_4 rfl ?_
  obtain ⟨h0, h⟩ := ckd_some h
  obtain ⟨v2, hq, h⟩ := Option.bind_eq_some_iff.mp h
  refine GC.callvI (rest := []) 2 rfl h0 rfl [.int x1] dX11_near_5 kk_X11_139 km_X2_lettersIn.1 km_X2_lettersIn.2 (ktX2_lettersIn _ _ _ hq) rfl rfl (Nat.le_of_ble_eq_true rfl) (Nat.le_of_ble_eq_true rfl) trivial (Nat.le_of_ble_eq_true rfl) ?_
  refine GoC.iconst (-1) dX11_near_8 (by decide) ?_
  refine GoC.icmp_eq 19 dX11_near_9 (by decide) h (fun h => ?_) (fun h => ?_)
  · refine GoC.iconst (-1) dX11_near_19 (by decide) ?_
    cases h
    exact GoC.iret dX11_near_20 rfl
  · refine GoC.iload_n 2 dX11_near_12 rfl ?_
    obtain ⟨v3, hq, h⟩ := Option.bind_eq_some_iff.mp h
    refine GC.callsI (rest := []) [.int x2] dX11_near_13 kk_X11_276 km_X11_isHowMany (ktX11_isHowMany _ _ hq) rfl rfl (Nat.le_of_ble_eq_true rfl) (Nat.le_of_ble_eq_true rfl) trivial (Nat.le_of_ble_eq_true rfl) ?_
    refine GoC.if_ne 21 dX11_near_16 (by decide) h (fun h => ?_) (fun h => ?_)
    · refine GC.aload_n 0 dX11_near_21 rfl ?_
      refine GC.getr 11 5 rfl (by decide) (by decide) fw_X11_53 (Or.inl rfl) dX11_near_22 h (fun v4 h => ?_)
      refine GoC.iconst 1 dX11_near_25 (by decide) ?_
      refine GoC.iload_n 1 dX11_near_26 rfl ?_
      refine GoC.iconst (-1) dX11_near_27 (by decide) ?_
      refine GoC.iload_n 2 dX11_near_28 rfl ?_
      obtain ⟨h0, h⟩ := ckd_some h
      obtain ⟨v5, σ6, hq, h⟩ := bd2_some h
      refine GC.callvI (rest := []) 6 rfl h0 rfl [.int 1, .int x1, .int (-1), .int x2] dX11_near_29 kk_X11_269 km_X6_run.1 km_X6_run.2 (ktX6_run _ _ _ _ _ _ hq) rfl rfl (Nat.le_of_ble_eq_true rfl) (Nat.le_of_ble_eq_true rfl) trivial (Nat.le_of_ble_eq_true rfl) ?_
      refine GoC.pop dX11_near_32 (rfl) ?_
      refine GC.aload_n 0 dX11_near_33 rfl ?_
      refine GC.getr 11 5 rfl (by decide) (by decide) fw_X11_53 (Or.inl rfl) dX11_near_34 h (fun v7 h => ?_)
      refine GoC.iload_n 3 dX11_near_37 rfl ?_
      obtain ⟨h0, h⟩ := ckd_some h
      obtain ⟨v8, hq, h⟩ := Option.bind_eq_some_iff.mp h
      refine GC.callvI (rest := []) 6 rfl h0 rfl [.int x3] dX11_near_38 kk_X11_273 km_X6_answer.1 km_X6_answer.2 (ktX6_answer _ _ _ hq) rfl rfl (Nat.le_of_ble_eq_true rfl) (Nat.le_of_ble_eq_true rfl) trivial (Nat.le_of_ble_eq_true rfl) ?_
      cases h
      exact GoC.iret dX11_near_41 rfl
    · refine GoC.iconst (-1) dX11_near_19 (by decide) ?_
      cases h
      exact GoC.iret dX11_near_20 rfl
set_option maxRecDepth 20000 in
theorem ktX11_near {l : Launch} {G : Gt} {σ : Hp} (x0 : Nat) (x1 : Int32) (x2 : Int32) (x3 : Int32) : ∀ Z, kX11_near σ x0 x1 x2 x3 = some Z → MtC l G yX11_near cX11_near 4 (some .int) 6 135 [G.rv x0, .int x1, .int x2, .int x3] σ (some (.int Z.1)) Z.2 := fun Z h => MtC.at (by decide +kernel) ⟨G.rv_cat _, rfl, rfl, rfl, trivial⟩ (Nat.le_of_ble_eq_true rfl) (ksX11_near x0 x1 x2 x3 h)
/-! X11_beside -/
def kX11_beside (σ : Hp) (x0 : Nat) (x1 : Int32) (x2 : Int32) (x3 : Int32) : Option (Int32 × Hp) := (gfr σ 21 1100 x0).bind (fun v1 => ckd σ v1 17 ((kX7_has σ v1 x1).bind (fun v2 => if v2 = 0 then some ((-1), σ) else (kX11_isHowMany σ x2).bind (fun v3 => if v3 = 0 then some ((-1), σ) else (gfr σ 21 1105 x0).bind (fun v4 => (gfr σ 21 1100 x0).bind (fun v5 => (gfr σ 17 700 v5).bind (fun v6 => (ald σ 1 v6 x1).bind (fun v7 => ckd σ v4 16 (bd2 (kX6_run σ v4 1 v7 x1 x2) (fun v8 σ9 => (gfr σ9 21 1105 x0).bind (fun v10 => ckd σ9 v10 16 ((kX6_answer σ9 v10 x3).bind (fun v11 => some (v11, σ9))))))))))))))
set_option maxRecDepth 20000 in
theorem ksX11_beside {l : Launch} {G : Gt} {n0 u0 : Nat} {σ : Hp} {Z : Int32 × Hp} (x0 : Nat) (x1 : Int32) (x2 : Int32) (x3 : Int32) (h : kX11_beside σ x0 x1 x2 x3 = some Z) : GoC l G RX11 "beside" cX11_beside 4 (some .int) 6 135 n0 u0 (some (.int Z.1)) Z.2 0 [(0, G.rv x0), (1, .int x1), (2, .int x2), (3, .int x3)] [] σ := by
  unfold kX11_beside at h
  refine GC.aload_n 0 dX11_beside_0 rfl ?_
  refine GC.getr 11 0 rfl (by decide) (by decide) fw_X11_12 (Or.inl rfl) dX11_beside_1 h (fun v1 h => ?_)
  refine GoC.iload_n 1 dX11_beside_4 rfl ?_
  obtain ⟨h0, h⟩ := ckd_some h
  obtain ⟨v2, hq, h⟩ := Option.bind_eq_some_iff.mp h
  refine GC.callvI (rest := []) 7 rfl h0 rfl [.int x1] dX11_beside_5 kk_X11_101 km_X7_has.1 km_X7_has.2 (ktX7_has _ _ _ hq) rfl rfl (Nat.le_of_ble_eq_true rfl) (Nat.le_of_ble_eq_true rfl) trivial (Nat.le_of_ble_eq_true rfl) ?_
  refine GoC.if_eq 18 dX11_beside_8 (by decide) h (fun h => ?_) (fun h => ?_)
  · refine GoC.iconst (-1) dX11_beside_18 (by decide) ?_
    cases h
    exact GoC.iret dX11_beside_19 rfl
  · refine GoC.iload_n 2 dX11_beside_11 rfl ?_
    obtain ⟨v3, hq, h⟩ := Option.bind_eq_some_iff.mp h
    refine GC.callsI (rest := []) [.int x2] dX11_beside_12 kk_X11_276 km_X11_isHowMany (ktX11_isHowMany _ _ hq) rfl rfl (Nat.le_of_ble_eq_true rfl) (Nat.le_of_ble_eq_true rfl) trivial (Nat.le_of_ble_eq_true rfl) ?_
    refine GoC.if_ne 20 dX11_beside_15 (by decide) h (fun h => ?_) (fun h => ?_)
    · refine GC.aload_n 0 dX11_beside_20 rfl ?_
      refine GC.getr 11 5 rfl (by decide) (by decide) fw_X11_53 (Or.inl rfl) dX11_beside_21 h (fun v4 h => ?_)
      refine GoC.iconst 1 dX11_beside_24 (by decide) ?_
      refine GC.aload_n 0 dX11_beside_25 rfl ?_
      refine GC.getr 11 0 rfl (by decide) (by decide) fw_X11_12 (Or.inl rfl) dX11_beside_26 h (fun v5 h => ?_)
      refine GC.getr 7 0 rfl (by decide) (by decide) fw_X11_214 (Or.inl rfl) dX11_beside_29 h (fun v6 h => ?_)
      refine GoC.iload_n 1 dX11_beside_32 rfl ?_
      refine GC.iald dX11_beside_33 h (fun v7 h => ?_)
      refine GoC.iload_n 1 dX11_beside_34 rfl ?_
      refine GoC.iload_n 2 dX11_beside_35 rfl ?_
      obtain ⟨h0, h⟩ := ckd_some h
      obtain ⟨v8, σ9, hq, h⟩ := bd2_some h
      refine GC.callvI (rest := []) 6 rfl h0 rfl [.int 1, .int v7, .int x1, .int x2] dX11_beside_36 kk_X11_269 km_X6_run.1 km_X6_run.2 (ktX6_run _ _ _ _ _ _ hq) rfl rfl (Nat.le_of_ble_eq_true rfl) (Nat.le_of_ble_eq_true rfl) trivial (Nat.le_of_ble_eq_true rfl) ?_
      refine GoC.pop dX11_beside_39 (rfl) ?_
      refine GC.aload_n 0 dX11_beside_40 rfl ?_
      refine GC.getr 11 5 rfl (by decide) (by decide) fw_X11_53 (Or.inl rfl) dX11_beside_41 h (fun v10 h => ?_)
      refine GoC.iload_n 3 dX11_beside_44 rfl ?_
      obtain ⟨h0, h⟩ := ckd_some h
      obtain ⟨v11, hq, h⟩ := Option.bind_eq_some_iff.mp h
      refine GC.callvI (rest := []) 6 rfl h0 rfl [.int x3] dX11_beside_45 kk_X11_273 km_X6_answer.1 km_X6_answer.2 (ktX6_answer _ _ _ hq) rfl rfl (Nat.le_of_ble_eq_true rfl) (Nat.le_of_ble_eq_true rfl) trivial (Nat.le_of_ble_eq_true rfl) ?_
      cases h
      exact GoC.iret dX11_beside_48 rfl
    · refine GoC.iconst (-1) dX11_beside_18 (by decide) ?_
      cases h
      exact GoC.iret dX11_beside_19 rfl
set_option maxRecDepth 20000 in
theorem ktX11_beside {l : Launch} {G : Gt} {σ : Hp} (x0 : Nat) (x1 : Int32) (x2 : Int32) (x3 : Int32) : ∀ Z, kX11_beside σ x0 x1 x2 x3 = some Z → MtC l G yX11_beside cX11_beside 4 (some .int) 6 135 [G.rv x0, .int x1, .int x2, .int x3] σ (some (.int Z.1)) Z.2 := fun Z h => MtC.at (by decide +kernel) ⟨G.rv_cat _, rfl, rfl, rfl, trivial⟩ (Nat.le_of_ble_eq_true rfl) (ksX11_beside x0 x1 x2 x3 h)
/-! X11_farthest -/
def kX11_farthest (σ : Hp) (x0 : Nat) (x1 : Int32) (x2 : Int32) (x3 : Int32) : Option (Int32 × Hp) := (gfr σ 21 1101 x0).bind (fun v1 => ckd σ v1 12 ((kX2_lettersIn σ v1 x1).bind (fun v2 => if v2 = (-1) then some ((-1), σ) else (kX11_isHowMany σ x2).bind (fun v3 => if v3 = 0 then some ((-1), σ) else (gfr σ 21 1105 x0).bind (fun v4 => ckd σ v4 16 (bd2 (kX6_run σ v4 2 x1 (-1) x2) (fun v5 σ6 => (gfr σ6 21 1105 x0).bind (fun v7 => ckd σ6 v7 16 ((kX6_answer σ6 v7 x3).bind (fun v8 => some (v8, σ6)))))))))))
set_option maxRecDepth 20000 in
theorem ksX11_farthest {l : Launch} {G : Gt} {n0 u0 : Nat} {σ : Hp} {Z : Int32 × Hp} (x0 : Nat) (x1 : Int32) (x2 : Int32) (x3 : Int32) (h : kX11_farthest σ x0 x1 x2 x3 = some Z) : GoC l G RX11 "farthest" cX11_farthest 4 (some .int) 6 135 n0 u0 (some (.int Z.1)) Z.2 0 [(0, G.rv x0), (1, .int x1), (2, .int x2), (3, .int x3)] [] σ := by
  unfold kX11_farthest at h
  refine GC.aload_n 0 dX11_farthest_0 rfl ?_
  refine GC.getr 11 1 rfl (by decide) (by decide) fw_X11_19 (Or.inl rfl) dX11_farthest_1 h (fun v1 h => ?_)
  refine GoC.iload_n 1 dX11_farthest_4 rfl ?_
  obtain ⟨h0, h⟩ := ckd_some h
  obtain ⟨v2, hq, h⟩ := Option.bind_eq_some_iff.mp h
  refine GC.callvI (rest := []) 2 rfl h0 rfl [.int x1] dX11_farthest_5 kk_X11_139 km_X2_lettersIn.1 km_X2_lettersIn.2 (ktX2_lettersIn _ _ _ hq) rfl rfl (Nat.le_of_ble_eq_true rfl) (Nat.le_of_ble_eq_true rfl) trivial (Nat.le_of_ble_eq_true rfl) ?_
  refine GoC.iconst (-1) dX11_farthest_8 (by decide) ?_
  refine GoC.icmp_eq 19 dX11_farthest_9 (by decide) h (fun h => ?_) (fun h => ?_)
  · refine GoC.iconst (-1) dX11_farthest_19 (by decide) ?_
    cases h
    exact GoC.iret dX11_farthest_20 rfl
  · refine GoC.iload_n 2 dX11_farthest_12 rfl ?_
    obtain ⟨v3, hq, h⟩ := Option.bind_eq_some_iff.mp h
    refine GC.callsI (rest := []) [.int x2] dX11_farthest_13 kk_X11_276 km_X11_isHowMany (ktX11_isHowMany _ _ hq) rfl rfl (Nat.le_of_ble_eq_true rfl) (Nat.le_of_ble_eq_true rfl) trivial (Nat.le_of_ble_eq_true rfl) ?_
    refine GoC.if_ne 21 dX11_farthest_16 (by decide) h (fun h => ?_) (fun h => ?_)
    · refine GC.aload_n 0 dX11_farthest_21 rfl ?_
      refine GC.getr 11 5 rfl (by decide) (by decide) fw_X11_53 (Or.inl rfl) dX11_farthest_22 h (fun v4 h => ?_)
      refine GoC.iconst 2 dX11_farthest_25 (by decide) ?_
      refine GoC.iload_n 1 dX11_farthest_26 rfl ?_
      refine GoC.iconst (-1) dX11_farthest_27 (by decide) ?_
      refine GoC.iload_n 2 dX11_farthest_28 rfl ?_
      obtain ⟨h0, h⟩ := ckd_some h
      obtain ⟨v5, σ6, hq, h⟩ := bd2_some h
      refine GC.callvI (rest := []) 6 rfl h0 rfl [.int 2, .int x1, .int (-1), .int x2] dX11_farthest_29 kk_X11_269 km_X6_run.1 km_X6_run.2 (ktX6_run _ _ _ _ _ _ hq) rfl rfl (Nat.le_of_ble_eq_true rfl) (Nat.le_of_ble_eq_true rfl) trivial (Nat.le_of_ble_eq_true rfl) ?_
      refine GoC.pop dX11_farthest_32 (rfl) ?_
      refine GC.aload_n 0 dX11_farthest_33 rfl ?_
      refine GC.getr 11 5 rfl (by decide) (by decide) fw_X11_53 (Or.inl rfl) dX11_farthest_34 h (fun v7 h => ?_)
      refine GoC.iload_n 3 dX11_farthest_37 rfl ?_
      obtain ⟨h0, h⟩ := ckd_some h
      obtain ⟨v8, hq, h⟩ := Option.bind_eq_some_iff.mp h
      refine GC.callvI (rest := []) 6 rfl h0 rfl [.int x3] dX11_farthest_38 kk_X11_273 km_X6_answer.1 km_X6_answer.2 (ktX6_answer _ _ _ hq) rfl rfl (Nat.le_of_ble_eq_true rfl) (Nat.le_of_ble_eq_true rfl) trivial (Nat.le_of_ble_eq_true rfl) ?_
      cases h
      exact GoC.iret dX11_farthest_41 rfl
    · refine GoC.iconst (-1) dX11_farthest_19 (by decide) ?_
      cases h
      exact GoC.iret dX11_farthest_20 rfl
set_option maxRecDepth 20000 in
theorem ktX11_farthest {l : Launch} {G : Gt} {σ : Hp} (x0 : Nat) (x1 : Int32) (x2 : Int32) (x3 : Int32) : ∀ Z, kX11_farthest σ x0 x1 x2 x3 = some Z → MtC l G yX11_farthest cX11_farthest 4 (some .int) 6 135 [G.rv x0, .int x1, .int x2, .int x3] σ (some (.int Z.1)) Z.2 := fun Z h => MtC.at (by decide +kernel) ⟨G.rv_cat _, rfl, rfl, rfl, trivial⟩ (Nat.le_of_ble_eq_true rfl) (ksX11_farthest x0 x1 x2 x3 h)
/-! X11_cost -/
def kX11_cost (σ : Hp) (x0 : Nat) (x1 : Int32) : Option (Int32) := (gfr σ 21 1105 x0).bind (fun v1 => (gfi σ 16 617 v1).bind (fun v2 => if v2 = 0 then some (-1) else if x1 = 0 then (gfr σ 21 1105 x0).bind (fun v3 => (gfi σ 16 614 v3).bind (fun v4 => some v4)) else if x1 = 1 then (gfr σ 21 1105 x0).bind (fun v5 => (gfi σ 16 615 v5).bind (fun v6 => some v6)) else if x1 = 2 then (gfr σ 21 1105 x0).bind (fun v7 => (gfi σ 16 616 v7).bind (fun v8 => some v8)) else if x1 = 3 then (gfr σ 21 1105 x0).bind (fun v9 => (gfi σ 16 613 v9).bind (fun v10 => some v10)) else some (-1)))
set_option maxRecDepth 20000 in
theorem ksX11_cost {l : Launch} {G : Gt} {n0 u0 : Nat} {σ : Hp} {Z : Int32} (x0 : Nat) (x1 : Int32) (h : kX11_cost σ x0 x1 = some Z) : GoC l G RX11 "cost" cX11_cost 2 (some .int) 0 0 n0 u0 (some (.int Z)) σ 0 [(0, G.rv x0), (1, .int x1)] [] σ := by
  unfold kX11_cost at h
  refine GC.aload_n 0 dX11_cost_0 rfl ?_
  refine GC.getr 11 5 rfl (by decide) (by decide) fw_X11_53 (Or.inl rfl) dX11_cost_1 h (fun v1 h => ?_)
  refine GC.geti 6 17 rfl (by decide) (by decide) fw_X11_279 (Or.inl rfl) dX11_cost_4 h (fun v2 h => ?_)
  refine GoC.if_ne 12 dX11_cost_7 (by decide) h (fun h => ?_) (fun h => ?_)
  · refine GoC.iload_n 1 dX11_cost_12 rfl ?_
    by_cases cc0 : x1 = 0
    · rw [if_pos cc0] at h
      refine GoC.tabIn 44 0 cc0 dX11_cost_13 (by decide) (by decide) rfl (by decide) ?_
      refine GC.aload_n 0 dX11_cost_44 rfl ?_
      refine GC.getr 11 5 rfl (by decide) (by decide) fw_X11_53 (Or.inl rfl) dX11_cost_45 h (fun v3 h => ?_)
      refine GC.geti 6 14 rfl (by decide) (by decide) fw_X11_282 (Or.inl rfl) dX11_cost_48 h (fun v4 h => ?_)
      cases h
      exact GoC.iret dX11_cost_51 rfl
    rw [if_neg cc0] at h
    by_cases cc1 : x1 = 1
    · rw [if_pos cc1] at h
      refine GoC.tabIn 52 1 cc1 dX11_cost_13 (by decide) (by decide) rfl (by decide) ?_
      refine GC.aload_n 0 dX11_cost_52 rfl ?_
      refine GC.getr 11 5 rfl (by decide) (by decide) fw_X11_53 (Or.inl rfl) dX11_cost_53 h (fun v5 h => ?_)
      refine GC.geti 6 15 rfl (by decide) (by decide) fw_X11_285 (Or.inl rfl) dX11_cost_56 h (fun v6 h => ?_)
      cases h
      exact GoC.iret dX11_cost_59 rfl
    rw [if_neg cc1] at h
    by_cases cc2 : x1 = 2
    · rw [if_pos cc2] at h
      refine GoC.tabIn 60 2 cc2 dX11_cost_13 (by decide) (by decide) rfl (by decide) ?_
      refine GC.aload_n 0 dX11_cost_60 rfl ?_
      refine GC.getr 11 5 rfl (by decide) (by decide) fw_X11_53 (Or.inl rfl) dX11_cost_61 h (fun v7 h => ?_)
      refine GC.geti 6 16 rfl (by decide) (by decide) fw_X11_288 (Or.inl rfl) dX11_cost_64 h (fun v8 h => ?_)
      cases h
      exact GoC.iret dX11_cost_67 rfl
    rw [if_neg cc2] at h
    by_cases cc3 : x1 = 3
    · rw [if_pos cc3] at h
      refine GoC.tabIn 68 3 cc3 dX11_cost_13 (by decide) (by decide) rfl (by decide) ?_
      refine GC.aload_n 0 dX11_cost_68 rfl ?_
      refine GC.getr 11 5 rfl (by decide) (by decide) fw_X11_53 (Or.inl rfl) dX11_cost_69 h (fun v9 h => ?_)
      refine GC.geti 6 13 rfl (by decide) (by decide) fw_X11_291 (Or.inl rfl) dX11_cost_72 h (fun v10 h => ?_)
      cases h
      exact GoC.iret dX11_cost_75 rfl
    rw [if_neg cc3] at h
    refine GoC.tabOut 76 dX11_cost_13 (sw_out (0) 4 (by decide) (fun k hk => match k, hk with | 0, _ => cc0 | 1, _ => cc1 | 2, _ => cc2 | 3, _ => cc3 | (k + 4), hk => absurd hk (by omega)) _ rfl) (by decide) ?_
    refine GoC.iconst (-1) dX11_cost_76 (by decide) ?_
    cases h
    exact GoC.iret dX11_cost_77 rfl
  · refine GoC.iconst (-1) dX11_cost_10 (by decide) ?_
    cases h
    exact GoC.iret dX11_cost_11 rfl
set_option maxRecDepth 20000 in
theorem ktX11_cost {l : Launch} {G : Gt} {σ : Hp} (x0 : Nat) (x1 : Int32) : ∀ Z, kX11_cost σ x0 x1 = some Z → MtC l G yX11_cost cX11_cost 2 (some .int) 0 0 [G.rv x0, .int x1] σ (some (.int Z)) σ := fun Z h => MtC.at (by decide +kernel) ⟨G.rv_cat _, rfl, trivial⟩ (Nat.le_of_ble_eq_true rfl) (ksX11_cost x0 x1 h)
/-! X11_scan -/
def kX11_scan_77 (k26 : Nat → Int32 → Int32 → Int32 → Int32 → Hp → Option (Int32 × Hp)) (x0 : Nat) (x1 : Int32) (x2 : Int32) (x3 : Int32) (x4 : Int32) (σ : Hp) : Option (Int32 × Hp) := k26 x0 x1 x2 x3 (x4 + 1) σ
def kX11_scan_26  : Nat → Nat → Int32 → Int32 → Int32 → Int32 → Hp → Option (Int32 × Hp)
  | 0, _, _, _, _, _, _ => none
  | n + 1, x0, x1, x2, x3, x4, σ => if 40 ≤ x4 then some (x3, σ) else (gfr σ 21 1100 x0).bind (fun v1 => ckd σ v1 17 ((kX7_has σ v1 x4).bind (fun v2 => if v2 = 0 then kX11_scan_77 (kX11_scan_26 n) x0 x1 x2 x3 x4 σ else (gfr σ 21 1101 x0).bind (fun v3 => (gfr σ 21 1100 x0).bind (fun v4 => (gfi σ 17 706 v4).bind (fun v5 => (gfr σ 21 1100 x0).bind (fun v6 => (gfr σ 17 700 v6).bind (fun v7 => (ald σ 1 v7 x4).bind (fun v8 => ckd σ v3 12 (bd2 (kX2_between σ v3 v5 x1 v8) (fun v9 σ10 => if x2 < v9 then kX11_scan_77 (kX11_scan_26 n) x0 x1 x2 x3 x4 σ10 else kX11_scan_77 (kX11_scan_26 n) x0 x1 x2 (x3 + 1) x4 σ10)))))))))))
def kX11_scan (σ : Hp) (x0 : Nat) (x1 : Int32) (x2 : Int32) : Option (Int32 × Hp) := (gfr σ 21 1101 x0).bind (fun v11 => ckd σ v11 12 ((kX2_lettersIn σ v11 x1).bind (fun v12 => if v12 = (-1) then some ((-1), σ) else (kX11_isFar σ x2).bind (fun v13 => if v13 = 0 then some ((-1), σ) else kX11_scan_26 FU x0 x1 x2 0 0 σ))))
set_option maxRecDepth 20000 in
theorem ksX11_scan_77 {l : Launch} {G : Gt} {n0 u0 : Nat} {Z : Int32 × Hp} (k26 : Nat → Int32 → Int32 → Int32 → Int32 → Hp → Option (Int32 × Hp)) (h26 : ∀ (x0 : Nat) (x1 : Int32) (x2 : Int32) (x3 : Int32) (x4 : Int32) (σ : Hp), k26 x0 x1 x2 x3 x4 σ = some Z → GoC l G RX11 "scan" cX11_scan 5 (some .int) 2 50 n0 u0 (some (.int Z.1)) Z.2 26 [(0, G.rv x0), (1, .int x1), (2, .int x2), (3, .int x3), (4, .int x4)] [] σ) (x0 : Nat) (x1 : Int32) (x2 : Int32) (x3 : Int32) (x4 : Int32) (σ : Hp) (h : kX11_scan_77 k26 x0 x1 x2 x3 x4 σ = some Z) : GoC l G RX11 "scan" cX11_scan 5 (some .int) 2 50 n0 u0 (some (.int Z.1)) Z.2 77 [(0, G.rv x0), (1, .int x1), (2, .int x2), (3, .int x3), (4, .int x4)] [] σ := by
  unfold kX11_scan_77 at h
  refine GoC.iinc (w := 1) 4 [(0, G.rv x0), (1, .int x1), (2, .int x2), (3, .int x3), (4, .int (x4 + 1))] dX11_scan_77 rfl (by decide) (by decide) rfl ?_
  refine GoC.goto 26 dX11_scan_80 (by decide) ?_
  exact h26 _ _ _ _ _ _ h
set_option maxRecDepth 20000 in
theorem ksX11_scan_26 {l : Launch} {G : Gt} {n0 u0 : Nat} {Z : Int32 × Hp} (n : Nat) : ∀ (x0 : Nat) (x1 : Int32) (x2 : Int32) (x3 : Int32) (x4 : Int32) (σ : Hp), kX11_scan_26 n x0 x1 x2 x3 x4 σ = some Z → GoC l G RX11 "scan" cX11_scan 5 (some .int) 2 50 n0 u0 (some (.int Z.1)) Z.2 26 [(0, G.rv x0), (1, .int x1), (2, .int x2), (3, .int x3), (4, .int x4)] [] σ := by
  induction n with
  | zero => intro x0 x1 x2 x3 x4 σ h; rw [kX11_scan_26] at h; cases h
  | succ n ih =>
    intro x0 x1 x2 x3 x4 σ h
    rw [kX11_scan_26] at h
    refine GoC.iload 4 dX11_scan_26 rfl ?_
    refine GoC.bipush 40 dX11_scan_28 (by decide) ?_
    refine GoC.icmp_ge 83 dX11_scan_30 (by decide) h (fun h => ?_) (fun h => ?_)
    · refine GoC.iload_n 3 dX11_scan_83 rfl ?_
      cases h
      exact GoC.iret dX11_scan_84 rfl
    · refine GC.aload_n 0 dX11_scan_33 rfl ?_
      refine GC.getr 11 0 rfl (by decide) (by decide) fw_X11_12 (Or.inl rfl) dX11_scan_34 h (fun v1 h => ?_)
      refine GoC.iload 4 dX11_scan_37 rfl ?_
      obtain ⟨h0, h⟩ := ckd_some h
      obtain ⟨v2, hq, h⟩ := Option.bind_eq_some_iff.mp h
      refine GC.callvI (rest := []) 7 rfl h0 rfl [.int x4] dX11_scan_39 kk_X11_101 km_X7_has.1 km_X7_has.2 (ktX7_has _ _ _ hq) rfl rfl (Nat.le_of_ble_eq_true rfl) (Nat.le_of_ble_eq_true rfl) trivial (Nat.le_of_ble_eq_true rfl) ?_
      refine GoC.if_eq 77 dX11_scan_42 (by decide) h (fun h => ?_) (fun h => ?_)
      · exact ksX11_scan_77 _ ih _ _ _ _ _ _ h
      · refine GC.aload_n 0 dX11_scan_45 rfl ?_
        refine GC.getr 11 1 rfl (by decide) (by decide) fw_X11_19 (Or.inl rfl) dX11_scan_46 h (fun v3 h => ?_)
        refine GC.aload_n 0 dX11_scan_49 rfl ?_
        refine GC.getr 11 0 rfl (by decide) (by decide) fw_X11_12 (Or.inl rfl) dX11_scan_50 h (fun v4 h => ?_)
        refine GC.geti 7 6 rfl (by decide) (by decide) fw_X11_110 (Or.inl rfl) dX11_scan_53 h (fun v5 h => ?_)
        refine GoC.iload_n 1 dX11_scan_56 rfl ?_
        refine GC.aload_n 0 dX11_scan_57 rfl ?_
        refine GC.getr 11 0 rfl (by decide) (by decide) fw_X11_12 (Or.inl rfl) dX11_scan_58 h (fun v6 h => ?_)
        refine GC.getr 7 0 rfl (by decide) (by decide) fw_X11_214 (Or.inl rfl) dX11_scan_61 h (fun v7 h => ?_)
        refine GoC.iload 4 dX11_scan_64 rfl ?_
        refine GC.iald dX11_scan_66 h (fun v8 h => ?_)
        obtain ⟨h0, h⟩ := ckd_some h
        obtain ⟨v9, σ10, hq, h⟩ := bd2_some h
        refine GC.callvI (rest := []) 2 rfl h0 rfl [.int v5, .int x1, .int v8] dX11_scan_67 kk_X11_217 km_X2_between.1 km_X2_between.2 (ktX2_between _ _ _ _ _ hq) rfl rfl (Nat.le_of_ble_eq_true rfl) (Nat.le_of_ble_eq_true rfl) trivial (Nat.le_of_ble_eq_true rfl) ?_
        refine GoC.iload_n 2 dX11_scan_70 rfl ?_
        refine GoC.icmp_gt 77 dX11_scan_71 (by decide) h (fun h => ?_) (fun h => ?_)
        · exact ksX11_scan_77 _ ih _ _ _ _ _ _ h
        · refine GoC.iinc (w := 1) 3 [(0, G.rv x0), (1, .int x1), (2, .int x2), (3, .int (x3 + 1)), (4, .int x4)] dX11_scan_74 rfl (by decide) (by decide) rfl ?_
          exact ksX11_scan_77 _ ih _ _ _ _ _ _ h
set_option maxRecDepth 20000 in
theorem ksX11_scan {l : Launch} {G : Gt} {n0 u0 : Nat} {σ : Hp} {Z : Int32 × Hp} (x0 : Nat) (x1 : Int32) (x2 : Int32) (h : kX11_scan σ x0 x1 x2 = some Z) : GoC l G RX11 "scan" cX11_scan 5 (some .int) 2 50 n0 u0 (some (.int Z.1)) Z.2 0 [(0, G.rv x0), (1, .int x1), (2, .int x2)] [] σ := by
  unfold kX11_scan at h
  refine GC.aload_n 0 dX11_scan_0 rfl ?_
  refine GC.getr 11 1 rfl (by decide) (by decide) fw_X11_19 (Or.inl rfl) dX11_scan_1 h (fun v11 h => ?_)
  refine GoC.iload_n 1 dX11_scan_4 rfl ?_
  obtain ⟨h0, h⟩ := ckd_some h
  obtain ⟨v12, hq, h⟩ := Option.bind_eq_some_iff.mp h
  refine GC.callvI (rest := []) 2 rfl h0 rfl [.int x1] dX11_scan_5 kk_X11_139 km_X2_lettersIn.1 km_X2_lettersIn.2 (ktX2_lettersIn _ _ _ hq) rfl rfl (Nat.le_of_ble_eq_true rfl) (Nat.le_of_ble_eq_true rfl) trivial (Nat.le_of_ble_eq_true rfl) ?_
  refine GoC.iconst (-1) dX11_scan_8 (by decide) ?_
  refine GoC.icmp_eq 19 dX11_scan_9 (by decide) h (fun h => ?_) (fun h => ?_)
  · refine GoC.iconst (-1) dX11_scan_19 (by decide) ?_
    cases h
    exact GoC.iret dX11_scan_20 rfl
  · refine GoC.iload_n 2 dX11_scan_12 rfl ?_
    obtain ⟨v13, hq, h⟩ := Option.bind_eq_some_iff.mp h
    refine GC.callsI (rest := []) [.int x2] dX11_scan_13 kk_X11_123 km_X11_isFar (ktX11_isFar _ _ hq) rfl rfl (Nat.le_of_ble_eq_true rfl) (Nat.le_of_ble_eq_true rfl) trivial (Nat.le_of_ble_eq_true rfl) ?_
    refine GoC.if_ne 21 dX11_scan_16 (by decide) h (fun h => ?_) (fun h => ?_)
    · refine GoC.iconst 0 dX11_scan_21 (by decide) ?_
      refine GoC.istore_n [(0, G.rv x0), (1, .int x1), (2, .int x2), (3, .int 0)] dX11_scan_22 (by decide) rfl ?_
      refine GoC.iconst 0 dX11_scan_23 (by decide) ?_
      refine GoC.istore [(0, G.rv x0), (1, .int x1), (2, .int x2), (3, .int 0), (4, .int 0)] dX11_scan_24 (by decide) rfl ?_
      exact ksX11_scan_26 _ _ _ _ _ _ _ h
    · refine GoC.iconst (-1) dX11_scan_19 (by decide) ?_
      cases h
      exact GoC.iret dX11_scan_20 rfl
set_option maxRecDepth 20000 in
theorem ktX11_scan {l : Launch} {G : Gt} {σ : Hp} (x0 : Nat) (x1 : Int32) (x2 : Int32) : ∀ Z, kX11_scan σ x0 x1 x2 = some Z → MtC l G yX11_scan cX11_scan 5 (some .int) 2 50 [G.rv x0, .int x1, .int x2] σ (some (.int Z.1)) Z.2 := fun Z h => MtC.at (by decide +kernel) ⟨G.rv_cat _, rfl, rfl, trivial⟩ (Nat.le_of_ble_eq_true rfl) (ksX11_scan x0 x1 x2 h)
/-! X11_broken -/
def kX11_broken (σ : Hp) (x0 : Nat) (x1 : Int32) : Option (Int32 × Hp) := (gfr σ 21 1106 x0).bind (fun v1 => ckd σ v1 18 (bd2 (kX8_findBreak σ v1 x1) (fun v2 σ3 => (zb v2).bind (fun w => some (w, σ3)))))
set_option maxRecDepth 20000 in
theorem ksX11_broken {l : Launch} {G : Gt} {n0 u0 : Nat} {σ : Hp} {Z : Int32 × Hp} (x0 : Nat) (x1 : Int32) (h : kX11_broken σ x0 x1 = some Z) : GoC l G RX11 "broken" cX11_broken 2 (some .boolean) 4 92 n0 u0 (some (.int Z.1)) Z.2 0 [(0, G.rv x0), (1, .int x1)] [] σ := by
  unfold kX11_broken at h
  refine GC.aload_n 0 dX11_broken_0 rfl ?_
  refine GC.getr 11 6 rfl (by decide) (by decide) fw_X11_60 (Or.inl rfl) dX11_broken_1 h (fun v1 h => ?_)
  refine GoC.iload_n 1 dX11_broken_4 rfl ?_
  obtain ⟨h0, h⟩ := ckd_some h
  obtain ⟨v2, σ3, hq, h⟩ := bd2_some h
  refine GC.callvI (rest := []) 8 rfl h0 rfl [.int x1] dX11_broken_5 kk_X11_292 km_X8_findBreak.1 km_X8_findBreak.2 (ktX8_findBreak _ _ _ hq) rfl rfl (Nat.le_of_ble_eq_true rfl) (Nat.le_of_ble_eq_true rfl) trivial (Nat.le_of_ble_eq_true rfl) ?_
  obtain ⟨w, hw, h⟩ := Option.bind_eq_some_iff.mp h
  cases h
  exact GoC.zret dX11_broken_8 rfl hw
set_option maxRecDepth 20000 in
theorem ktX11_broken {l : Launch} {G : Gt} {σ : Hp} (x0 : Nat) (x1 : Int32) : ∀ Z, kX11_broken σ x0 x1 = some Z → MtC l G yX11_broken cX11_broken 2 (some .boolean) 4 92 [G.rv x0, .int x1] σ (some (.int Z.1)) Z.2 := fun Z h => MtC.at (by decide +kernel) ⟨G.rv_cat _, rfl, trivial⟩ (Nat.le_of_ble_eq_true rfl) (ksX11_broken x0 x1 h)
/-! X11_breaks -/
def kX11_breaks (σ : Hp) (x0 : Nat) (x1 : Int32) (x2 : Int32) : Option (Int32 × Hp) := (gfr σ 21 1106 x0).bind (fun v1 => ckd σ v1 18 (bd2 (kX8_findBreak σ v1 x1) (fun v2 σ3 => if v2 = 0 then some ((-1), σ3) else if x2 = 0 then (gfr σ3 21 1106 x0).bind (fun v4 => (gfi σ3 18 802 v4).bind (fun v5 => some (v5, σ3))) else if x2 = 1 then (gfr σ3 21 1106 x0).bind (fun v6 => (gfi σ3 18 803 v6).bind (fun v7 => some (v7, σ3))) else if x2 = 2 then (gfr σ3 21 1106 x0).bind (fun v8 => (gfi σ3 18 804 v8).bind (fun v9 => some (v9, σ3))) else some ((-1), σ3))))
set_option maxRecDepth 20000 in
theorem ksX11_breaks {l : Launch} {G : Gt} {n0 u0 : Nat} {σ : Hp} {Z : Int32 × Hp} (x0 : Nat) (x1 : Int32) (x2 : Int32) (h : kX11_breaks σ x0 x1 x2 = some Z) : GoC l G RX11 "breaks" cX11_breaks 3 (some .int) 4 92 n0 u0 (some (.int Z.1)) Z.2 0 [(0, G.rv x0), (1, .int x1), (2, .int x2)] [] σ := by
  unfold kX11_breaks at h
  refine GC.aload_n 0 dX11_breaks_0 rfl ?_
  refine GC.getr 11 6 rfl (by decide) (by decide) fw_X11_60 (Or.inl rfl) dX11_breaks_1 h (fun v1 h => ?_)
  refine GoC.iload_n 1 dX11_breaks_4 rfl ?_
  obtain ⟨h0, h⟩ := ckd_some h
  obtain ⟨v2, σ3, hq, h⟩ := bd2_some h
  refine GC.callvI (rest := []) 8 rfl h0 rfl [.int x1] dX11_breaks_5 kk_X11_292 km_X8_findBreak.1 km_X8_findBreak.2 (ktX8_findBreak _ _ _ hq) rfl rfl (Nat.le_of_ble_eq_true rfl) (Nat.le_of_ble_eq_true rfl) trivial (Nat.le_of_ble_eq_true rfl) ?_
  refine GoC.if_ne 13 dX11_breaks_8 (by decide) h (fun h => ?_) (fun h => ?_)
  · refine GoC.iload_n 2 dX11_breaks_13 rfl ?_
    by_cases cc0 : x2 = 0
    · rw [if_pos cc0] at h
      refine GoC.tabIn 40 0 cc0 dX11_breaks_14 (by decide) (by decide) rfl (by decide) ?_
      refine GC.aload_n 0 dX11_breaks_40 rfl ?_
      refine GC.getr 11 6 rfl (by decide) (by decide) fw_X11_60 (Or.inl rfl) dX11_breaks_41 h (fun v4 h => ?_)
      refine GC.geti 8 2 rfl (by decide) (by decide) fw_X11_295 (Or.inl rfl) dX11_breaks_44 h (fun v5 h => ?_)
      cases h
      exact GoC.iret dX11_breaks_47 rfl
    rw [if_neg cc0] at h
    by_cases cc1 : x2 = 1
    · rw [if_pos cc1] at h
      refine GoC.tabIn 48 1 cc1 dX11_breaks_14 (by decide) (by decide) rfl (by decide) ?_
      refine GC.aload_n 0 dX11_breaks_48 rfl ?_
      refine GC.getr 11 6 rfl (by decide) (by decide) fw_X11_60 (Or.inl rfl) dX11_breaks_49 h (fun v6 h => ?_)
      refine GC.geti 8 3 rfl (by decide) (by decide) fw_X11_298 (Or.inl rfl) dX11_breaks_52 h (fun v7 h => ?_)
      cases h
      exact GoC.iret dX11_breaks_55 rfl
    rw [if_neg cc1] at h
    by_cases cc2 : x2 = 2
    · rw [if_pos cc2] at h
      refine GoC.tabIn 56 2 cc2 dX11_breaks_14 (by decide) (by decide) rfl (by decide) ?_
      refine GC.aload_n 0 dX11_breaks_56 rfl ?_
      refine GC.getr 11 6 rfl (by decide) (by decide) fw_X11_60 (Or.inl rfl) dX11_breaks_57 h (fun v8 h => ?_)
      refine GC.geti 8 4 rfl (by decide) (by decide) fw_X11_301 (Or.inl rfl) dX11_breaks_60 h (fun v9 h => ?_)
      cases h
      exact GoC.iret dX11_breaks_63 rfl
    rw [if_neg cc2] at h
    refine GoC.tabOut 64 dX11_breaks_14 (sw_out (0) 3 (by decide) (fun k hk => match k, hk with | 0, _ => cc0 | 1, _ => cc1 | 2, _ => cc2 | (k + 3), hk => absurd hk (by omega)) _ rfl) (by decide) ?_
    refine GoC.iconst (-1) dX11_breaks_64 (by decide) ?_
    cases h
    exact GoC.iret dX11_breaks_65 rfl
  · refine GoC.iconst (-1) dX11_breaks_11 (by decide) ?_
    cases h
    exact GoC.iret dX11_breaks_12 rfl
set_option maxRecDepth 20000 in
theorem ktX11_breaks {l : Launch} {G : Gt} {σ : Hp} (x0 : Nat) (x1 : Int32) (x2 : Int32) : ∀ Z, kX11_breaks σ x0 x1 x2 = some Z → MtC l G yX11_breaks cX11_breaks 3 (some .int) 4 92 [G.rv x0, .int x1, .int x2] σ (some (.int Z.1)) Z.2 := fun Z h => MtC.at (by decide +kernel) ⟨G.rv_cat _, rfl, rfl, trivial⟩ (Nat.le_of_ble_eq_true rfl) (ksX11_breaks x0 x1 x2 h)
/-! X11_covers -/
def kX11_covers (σ : Hp) (x0 : Nat) : Option (Int32 × Hp) := (gfr σ 21 1104 x0).bind (fun v1 => ckd σ v1 20 (bd2 (kX10_reachesCover σ v1) (fun v2 σ3 => (zb v2).bind (fun w => some (w, σ3)))))
set_option maxRecDepth 20000 in
theorem ksX11_covers {l : Launch} {G : Gt} {n0 u0 : Nat} {σ : Hp} {Z : Int32 × Hp} (x0 : Nat) (h : kX11_covers σ x0 = some Z) : GoC l G RX11 "covers" cX11_covers 1 (some .boolean) 9 228 n0 u0 (some (.int Z.1)) Z.2 0 [(0, G.rv x0)] [] σ := by
  unfold kX11_covers at h
  refine GC.aload_n 0 dX11_covers_0 rfl ?_
  refine GC.getr 11 4 rfl (by decide) (by decide) fw_X11_44 (Or.inl rfl) dX11_covers_1 h (fun v1 h => ?_)
  obtain ⟨h0, h⟩ := ckd_some h
  obtain ⟨v2, σ3, hq, h⟩ := bd2_some h
  refine GC.callvI (rest := []) 10 rfl h0 rfl [] dX11_covers_4 kk_X11_304 km_X10_reachesCover.1 km_X10_reachesCover.2 (ktX10_reachesCover _ _ hq) rfl rfl (Nat.le_of_ble_eq_true rfl) (Nat.le_of_ble_eq_true rfl) trivial (Nat.le_of_ble_eq_true rfl) ?_
  obtain ⟨w, hw, h⟩ := Option.bind_eq_some_iff.mp h
  cases h
  exact GoC.zret dX11_covers_7 rfl hw
set_option maxRecDepth 20000 in
theorem ktX11_covers {l : Launch} {G : Gt} {σ : Hp} (x0 : Nat) : ∀ Z, kX11_covers σ x0 = some Z → MtC l G yX11_covers cX11_covers 1 (some .boolean) 9 228 [G.rv x0] σ (some (.int Z.1)) Z.2 := fun Z h => MtC.at (by decide +kernel) ⟨G.rv_cat _, trivial⟩ (Nat.le_of_ble_eq_true rfl) (ksX11_covers x0 h)
/-! X11_pair -/
def kX11_pair_23 (σ : Hp)  (y0 : Nat) (y1 : Int32) : Option (Int32) := ckd σ y0 18 ((kX8_extremePair σ y0 y1).bind (fun v1 => some v1))
def kX11_pair_9 (σ : Hp)  (x0 : Nat) (x1 : Int32) : Option (Int32) := (gfr σ 21 1106 x0).bind (fun v2 => if x1 = 1 then kX11_pair_23 σ v2 1 else kX11_pair_23 σ v2 0)
def kX11_pair (σ : Hp) (x0 : Nat) (x1 : Int32) : Option (Int32) := if x1 = 0 then kX11_pair_9 σ x0 x1 else if x1 = 1 then kX11_pair_9 σ x0 x1 else some (-1)
set_option maxRecDepth 20000 in
theorem ksX11_pair_23 {l : Launch} {G : Gt} {n0 u0 : Nat} {σ : Hp} {Z : Int32} (y0 : Nat) (y1 : Int32) (h : kX11_pair_23 σ y0 y1 = some Z) : GoC l G RX11 "pair" cX11_pair 2 (some .int) 3 69 n0 u0 (some (.int Z)) σ 23 [] [.int y1, G.rv y0] σ := by
  unfold kX11_pair_23 at h
  obtain ⟨h0, h⟩ := ckd_some h
  obtain ⟨v1, hq, h⟩ := Option.bind_eq_some_iff.mp h
  refine GC.callvI (rest := []) 8 rfl h0 rfl [.int y1] dX11_pair_23 kk_X11_307 km_X8_extremePair.1 km_X8_extremePair.2 (ktX8_extremePair _ _ _ hq) rfl rfl (Nat.le_of_ble_eq_true rfl) (Nat.le_of_ble_eq_true rfl) trivial (Nat.le_of_ble_eq_true rfl) ?_
  refine GoC.goto 30 dX11_pair_26 (by decide) ?_
  cases h
  exact GoC.iret dX11_pair_30 rfl
set_option maxRecDepth 20000 in
theorem ksX11_pair_9 {l : Launch} {G : Gt} {n0 u0 : Nat} {σ : Hp} {Z : Int32} (x0 : Nat) (x1 : Int32) (h : kX11_pair_9 σ x0 x1 = some Z) : GoC l G RX11 "pair" cX11_pair 2 (some .int) 3 69 n0 u0 (some (.int Z)) σ 9 [(0, G.rv x0), (1, .int x1)] [] σ := by
  unfold kX11_pair_9 at h
  refine GC.aload_n 0 dX11_pair_9 rfl ?_
  refine GC.getr 11 6 rfl (by decide) (by decide) fw_X11_60 (Or.inl rfl) dX11_pair_10 h (fun v2 h => ?_)
  refine GoC.iload_n 1 dX11_pair_13 rfl ?_
  refine GoC.iconst 1 dX11_pair_14 (by decide) ?_
  refine GoC.icmp_ne 22 dX11_pair_15 (by decide) h (fun h => ?_) (fun h => ?_)
  · refine GoC.iconst 0 dX11_pair_22 (by decide) ?_
    refine GoC.sub [] rfl ?_
    exact ksX11_pair_23 _ _ h
  · refine GoC.iconst 1 dX11_pair_18 (by decide) ?_
    refine GoC.goto 23 dX11_pair_19 (by decide) ?_
    refine GoC.sub [] rfl ?_
    exact ksX11_pair_23 _ _ h
set_option maxRecDepth 20000 in
theorem ksX11_pair {l : Launch} {G : Gt} {n0 u0 : Nat} {σ : Hp} {Z : Int32} (x0 : Nat) (x1 : Int32) (h : kX11_pair σ x0 x1 = some Z) : GoC l G RX11 "pair" cX11_pair 2 (some .int) 3 69 n0 u0 (some (.int Z)) σ 0 [(0, G.rv x0), (1, .int x1)] [] σ := by
  unfold kX11_pair at h
  refine GoC.iload_n 1 dX11_pair_0 rfl ?_
  refine GoC.if_eq 9 dX11_pair_1 (by decide) h (fun h => ?_) (fun h => ?_)
  · exact ksX11_pair_9 _ _ h
  · refine GoC.iload_n 1 dX11_pair_4 rfl ?_
    refine GoC.iconst 1 dX11_pair_5 (by decide) ?_
    refine GoC.icmp_ne 29 dX11_pair_6 (by decide) h (fun h => ?_) (fun h => ?_)
    · refine GoC.iconst (-1) dX11_pair_29 (by decide) ?_
      cases h
      exact GoC.iret dX11_pair_30 rfl
    · exact ksX11_pair_9 _ _ h
set_option maxRecDepth 20000 in
theorem ktX11_pair {l : Launch} {G : Gt} {σ : Hp} (x0 : Nat) (x1 : Int32) : ∀ Z, kX11_pair σ x0 x1 = some Z → MtC l G yX11_pair cX11_pair 2 (some .int) 3 69 [G.rv x0, .int x1] σ (some (.int Z)) σ := fun Z h => MtC.at (by decide +kernel) ⟨G.rv_cat _, rfl, trivial⟩ (Nat.le_of_ble_eq_true rfl) (ksX11_pair x0 x1 h)
/-! X11_couple -/
def kX11_couple (σ : Hp) (x0 : Nat) (x1 : Int32) (x2 : Int32) : Option (Int32) := (kX11_isFar σ x1).bind (fun v1 => if v1 = 0 then some (-1) else if x2 = (-1) then (gfr σ 21 1106 x0).bind (fun v4 => ckd σ v4 18 ((kX8_countPairs σ v4 0 x1).bind (fun v5 => some v5))) else (gfr σ 21 1106 x0).bind (fun v2 => ckd σ v2 18 ((kX8_coupleAt σ v2 x1 x2).bind (fun v3 => some v3))))
set_option maxRecDepth 20000 in
theorem ksX11_couple {l : Launch} {G : Gt} {n0 u0 : Nat} {σ : Hp} {Z : Int32} (x0 : Nat) (x1 : Int32) (x2 : Int32) (h : kX11_couple σ x0 x1 x2 = some Z) : GoC l G RX11 "couple" cX11_couple 3 (some .int) 3 68 n0 u0 (some (.int Z)) σ 0 [(0, G.rv x0), (1, .int x1), (2, .int x2)] [] σ := by
  unfold kX11_couple at h
  refine GoC.iload_n 1 dX11_couple_0 rfl ?_
  obtain ⟨v1, hq, h⟩ := Option.bind_eq_some_iff.mp h
  refine GC.callsI (rest := []) [.int x1] dX11_couple_1 kk_X11_123 km_X11_isFar (ktX11_isFar _ _ hq) rfl rfl (Nat.le_of_ble_eq_true rfl) (Nat.le_of_ble_eq_true rfl) trivial (Nat.le_of_ble_eq_true rfl) ?_
  refine GoC.if_ne 9 dX11_couple_4 (by decide) h (fun h => ?_) (fun h => ?_)
  · refine GoC.iload_n 2 dX11_couple_9 rfl ?_
    refine GoC.iconst (-1) dX11_couple_10 (by decide) ?_
    refine GoC.icmp_ne 26 dX11_couple_11 (by decide) h (fun h => ?_) (fun h => ?_)
    · refine GC.aload_n 0 dX11_couple_26 rfl ?_
      refine GC.getr 11 6 rfl (by decide) (by decide) fw_X11_60 (Or.inl rfl) dX11_couple_27 h (fun v2 h => ?_)
      refine GoC.iload_n 1 dX11_couple_30 rfl ?_
      refine GoC.iload_n 2 dX11_couple_31 rfl ?_
      obtain ⟨h0, h⟩ := ckd_some h
      obtain ⟨v3, hq, h⟩ := Option.bind_eq_some_iff.mp h
      refine GC.callvI (rest := []) 8 rfl h0 rfl [.int x1, .int x2] dX11_couple_32 kk_X11_314 km_X8_coupleAt.1 km_X8_coupleAt.2 (ktX8_coupleAt _ _ _ _ hq) rfl rfl (Nat.le_of_ble_eq_true rfl) (Nat.le_of_ble_eq_true rfl) trivial (Nat.le_of_ble_eq_true rfl) ?_
      cases h
      exact GoC.iret dX11_couple_35 rfl
    · refine GC.aload_n 0 dX11_couple_14 rfl ?_
      refine GC.getr 11 6 rfl (by decide) (by decide) fw_X11_60 (Or.inl rfl) dX11_couple_15 h (fun v4 h => ?_)
      refine GoC.iconst 0 dX11_couple_18 (by decide) ?_
      refine GoC.iload_n 1 dX11_couple_19 rfl ?_
      obtain ⟨h0, h⟩ := ckd_some h
      obtain ⟨v5, hq, h⟩ := Option.bind_eq_some_iff.mp h
      refine GC.callvI (rest := []) 8 rfl h0 rfl [.int 0, .int x1] dX11_couple_20 kk_X11_311 km_X8_countPairs.1 km_X8_countPairs.2 (ktX8_countPairs _ _ _ _ hq) rfl rfl (Nat.le_of_ble_eq_true rfl) (Nat.le_of_ble_eq_true rfl) trivial (Nat.le_of_ble_eq_true rfl) ?_
      refine GoC.goto 35 dX11_couple_23 (by decide) ?_
      cases h
      exact GoC.iret dX11_couple_35 rfl
  · refine GoC.iconst (-1) dX11_couple_7 (by decide) ?_
    cases h
    exact GoC.iret dX11_couple_8 rfl
set_option maxRecDepth 20000 in
theorem ktX11_couple {l : Launch} {G : Gt} {σ : Hp} (x0 : Nat) (x1 : Int32) (x2 : Int32) : ∀ Z, kX11_couple σ x0 x1 x2 = some Z → MtC l G yX11_couple cX11_couple 3 (some .int) 3 68 [G.rv x0, .int x1, .int x2] σ (some (.int Z)) σ := fun Z h => MtC.at (by decide +kernel) ⟨G.rv_cat _, rfl, rfl, trivial⟩ (Nat.le_of_ble_eq_true rfl) (ksX11_couple x0 x1 x2 h)
