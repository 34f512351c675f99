/-! X11_spaced -/
def kX11_spaced (σ : Hp) (x0 : Nat) (x1 : Int32) : Option (Int32) := (gfr σ 21 1106 x0).bind (fun v1 => ckd σ v1 18 ((kX8_countPairs σ v1 x1 x1).bind (fun v2 => some v2)))
set_option maxRecDepth 20000 in
theorem ksX11_spaced {l : Launch} {G : Gt} {n0 u0 : Nat} {σ : Hp} {Z : Int32} (x0 : Nat) (x1 : Int32) (h : kX11_spaced σ x0 x1 = some Z) : GoC l G RX11 "spaced" cX11_spaced 2 (some .int) 3 68 n0 u0 (some (.int Z)) σ 0 [(0, G.rv x0), (1, .int x1)] [] σ := by
  unfold kX11_spaced at h
  refine GC.aload_n 0 dX11_spaced_0 rfl ?_
  refine GC.getr 11 6 rfl (by decide) (by decide) fw_X11_60 (Or.inl rfl) dX11_spaced_1 h (fun v1 h => ?_)
  refine GoC.iload_n 1 dX11_spaced_4 rfl ?_
  refine GoC.iload_n 1 dX11_spaced_5 rfl ?_
  obtain ⟨h0, h⟩ := ckd_some h
  obtain ⟨v2, hq, h⟩ := Option.bind_eq_some_iff.mp h
  refine GC.callvI (rest := []) 8 rfl h0 rfl [.int x1, .int x1] dX11_spaced_6 kk_X11_311 km_X8_countPairs.1 km_X8_countPairs.2 (ktX8_countPairs _ _ _ _ hq) rfl rfl (Nat.le_of_ble_eq_true rfl) (Nat.le_of_ble_eq_true rfl) trivial (Nat.le_of_ble_eq_true rfl) ?_
  cases h
  exact GoC.iret dX11_spaced_9 rfl
set_option maxRecDepth 20000 in
theorem ktX11_spaced {l : Launch} {G : Gt} {σ : Hp} (x0 : Nat) (x1 : Int32) : ∀ Z, kX11_spaced σ x0 x1 = some Z → MtC l G yX11_spaced cX11_spaced 2 (some .int) 3 68 [G.rv x0, .int x1] σ (some (.int Z)) σ := fun Z h => MtC.at (by decide +kernel) ⟨G.rv_cat _, rfl, trivial⟩ (Nat.le_of_ble_eq_true rfl) (ksX11_spaced x0 x1 h)
/-! X11_lonely -/
def kX11_lonely (σ : Hp) (x0 : Nat) : Option (Int32) := (gfr σ 21 1106 x0).bind (fun v1 => ckd σ v1 18 ((kX8_findLonely σ v1).bind (fun v2 => some v2)))
set_option maxRecDepth 20000 in
theorem ksX11_lonely {l : Launch} {G : Gt} {n0 u0 : Nat} {σ : Hp} {Z : Int32} (x0 : Nat) (h : kX11_lonely σ x0 = some Z) : GoC l G RX11 "lonely" cX11_lonely 1 (some .int) 3 69 n0 u0 (some (.int Z)) σ 0 [(0, G.rv x0)] [] σ := by
  unfold kX11_lonely at h
  refine GC.aload_n 0 dX11_lonely_0 rfl ?_
  refine GC.getr 11 6 rfl (by decide) (by decide) fw_X11_60 (Or.inl rfl) dX11_lonely_1 h (fun v1 h => ?_)
  obtain ⟨h0, h⟩ := ckd_some h
  obtain ⟨v2, hq, h⟩ := Option.bind_eq_some_iff.mp h
  refine GC.callvI (rest := []) 8 rfl h0 rfl [] dX11_lonely_4 kk_X11_317 km_X8_findLonely.1 km_X8_findLonely.2 (ktX8_findLonely _ _ hq) rfl rfl (Nat.le_of_ble_eq_true rfl) (Nat.le_of_ble_eq_true rfl) trivial (Nat.le_of_ble_eq_true rfl) ?_
  cases h
  exact GoC.iret dX11_lonely_7 rfl
set_option maxRecDepth 20000 in
theorem ktX11_lonely {l : Launch} {G : Gt} {σ : Hp} (x0 : Nat) : ∀ Z, kX11_lonely σ x0 = some Z → MtC l G yX11_lonely cX11_lonely 1 (some .int) 3 69 [G.rv x0] σ (some (.int Z)) σ := fun Z h => MtC.at (by decide +kernel) ⟨G.rv_cat _, trivial⟩ (Nat.le_of_ble_eq_true rfl) (ksX11_lonely x0 h)
/-! X11_pivot -/
def kX11_pivot_15  (σ : Hp) : Option (Int32 × Hp) := some ((-1), σ)
def kX11_pivot (σ : Hp) (x0 : Nat) (x1 : Int32) : Option (Int32 × Hp) := if x1 < 0 then kX11_pivot_15 σ else (gfr σ 21 1100 x0).bind (fun v1 => (gfi σ 17 701 v1).bind (fun v2 => if x1 < v2 then (gfr σ 21 1106 x0).bind (fun v3 => ckd σ v3 18 (bd2 (kX8_pivotAt σ v3 x1) (fun v4 σ5 => some (v4, σ5)))) else kX11_pivot_15 σ))
set_option maxRecDepth 20000 in
theorem ksX11_pivot_15 {l : Launch} {G : Gt} {n0 u0 : Nat} {Z : Int32 × Hp} (σ : Hp) (h : kX11_pivot_15 σ = some Z) : GoC l G RX11 "pivot" cX11_pivot 2 (some .int) 4 92 n0 u0 (some (.int Z.1)) Z.2 15 [] [] σ := by
  unfold kX11_pivot_15 at h
  refine GoC.iconst (-1) dX11_pivot_15 (by decide) ?_
  refine GoC.goto 27 dX11_pivot_16 (by decide) ?_
  cases h
  exact GoC.iret dX11_pivot_27 rfl
set_option maxRecDepth 20000 in
theorem ksX11_pivot {l : Launch} {G : Gt} {n0 u0 : Nat} {σ : Hp} {Z : Int32 × Hp} (x0 : Nat) (x1 : Int32) (h : kX11_pivot σ x0 x1 = some Z) : GoC l G RX11 "pivot" cX11_pivot 2 (some .int) 4 92 n0 u0 (some (.int Z.1)) Z.2 0 [(0, G.rv x0), (1, .int x1)] [] σ := by
  unfold kX11_pivot at h
  refine GoC.iload_n 1 dX11_pivot_0 rfl ?_
  refine GoC.if_lt 15 dX11_pivot_1 (by decide) h (fun h => ?_) (fun h => ?_)
  · refine GoC.sub [] rfl ?_
    exact ksX11_pivot_15 _ h
  · refine GoC.iload_n 1 dX11_pivot_4 rfl ?_
    refine GC.aload_n 0 dX11_pivot_5 rfl ?_
    refine GC.getr 11 0 rfl (by decide) (by decide) fw_X11_12 (Or.inl rfl) dX11_pivot_6 h (fun v1 h => ?_)
    refine GC.geti 7 1 rfl (by decide) (by decide) fw_X11_196 (Or.inl rfl) dX11_pivot_9 h (fun v2 h => ?_)
    refine GoC.icmp_lt 19 dX11_pivot_12 (by decide) h (fun h => ?_) (fun h => ?_)
    · refine GC.aload_n 0 dX11_pivot_19 rfl ?_
      refine GC.getr 11 6 rfl (by decide) (by decide) fw_X11_60 (Or.inl rfl) dX11_pivot_20 h (fun v3 h => ?_)
      refine GoC.iload_n 1 dX11_pivot_23 rfl ?_
      obtain ⟨h0, h⟩ := ckd_some h
      obtain ⟨v4, σ5, hq, h⟩ := bd2_some h
      refine GC.callvI (rest := []) 8 rfl h0 rfl [.int x1] dX11_pivot_24 kk_X11_320 km_X8_pivotAt.1 km_X8_pivotAt.2 (ktX8_pivotAt _ _ _ hq) rfl rfl (Nat.le_of_ble_eq_true rfl) (Nat.le_of_ble_eq_true rfl) trivial (Nat.le_of_ble_eq_true rfl) ?_
      cases h
      exact GoC.iret dX11_pivot_27 rfl
    · refine GoC.sub [] rfl ?_
      exact ksX11_pivot_15 _ h
set_option maxRecDepth 20000 in
theorem ktX11_pivot {l : Launch} {G : Gt} {σ : Hp} (x0 : Nat) (x1 : Int32) : ∀ Z, kX11_pivot σ x0 x1 = some Z → MtC l G yX11_pivot cX11_pivot 2 (some .int) 4 92 [G.rv x0, .int x1] σ (some (.int Z.1)) Z.2 := fun Z h => MtC.at (by decide +kernel) ⟨G.rv_cat _, rfl, trivial⟩ (Nat.le_of_ble_eq_true rfl) (ksX11_pivot x0 x1 h)
/-! X11_letter -/
def kX11_letter (σ : Hp) (x0 : Nat) (x1 : Int32) (x2 : Int32) : Option (Int32 × Hp) := (gfr σ 21 1100 x0).bind (fun v1 => ckd σ v1 17 ((kX7_has σ v1 x1).bind (fun v2 => if v2 = 0 then some ((-1), σ) else (gfr σ 21 1101 x0).bind (fun v3 => (gfr σ 21 1100 x0).bind (fun v4 => (gfr σ 17 700 v4).bind (fun v5 => (ald σ 1 v5 x1).bind (fun v6 => ckd σ v3 12 (bd2 (kX2_letterAt σ v3 v6 x2) (fun v7 σ8 => some (v7, σ8))))))))))
set_option maxRecDepth 20000 in
theorem ksX11_letter {l : Launch} {G : Gt} {n0 u0 : Nat} {σ : Hp} {Z : Int32 × Hp} (x0 : Nat) (x1 : Int32) (x2 : Int32) (h : kX11_letter σ x0 x1 x2 = some Z) : GoC l G RX11 "letter" cX11_letter 3 (some .int) 2 47 n0 u0 (some (.int Z.1)) Z.2 0 [(0, G.rv x0), (1, .int x1), (2, .int x2)] [] σ := by
  unfold kX11_letter at h
  refine GC.aload_n 0 dX11_letter_0 rfl ?_
  refine GC.getr 11 0 rfl (by decide) (by decide) fw_X11_12 (Or.inl rfl) dX11_letter_1 h (fun v1 h => ?_)
  refine GoC.iload_n 1 dX11_letter_4 rfl ?_
  obtain ⟨h0, h⟩ := ckd_some h
  obtain ⟨v2, hq, h⟩ := Option.bind_eq_some_iff.mp h
  refine GC.callvI (rest := []) 7 rfl h0 rfl [.int x1] dX11_letter_5 kk_X11_101 km_X7_has.1 km_X7_has.2 (ktX7_has _ _ _ hq) rfl rfl (Nat.le_of_ble_eq_true rfl) (Nat.le_of_ble_eq_true rfl) trivial (Nat.le_of_ble_eq_true rfl) ?_
  refine GoC.if_ne 13 dX11_letter_8 (by decide) h (fun h => ?_) (fun h => ?_)
  · refine GC.aload_n 0 dX11_letter_13 rfl ?_
    refine GC.getr 11 1 rfl (by decide) (by decide) fw_X11_19 (Or.inl rfl) dX11_letter_14 h (fun v3 h => ?_)
    refine GC.aload_n 0 dX11_letter_17 rfl ?_
    refine GC.getr 11 0 rfl (by decide) (by decide) fw_X11_12 (Or.inl rfl) dX11_letter_18 h (fun v4 h => ?_)
    refine GC.getr 7 0 rfl (by decide) (by decide) fw_X11_214 (Or.inl rfl) dX11_letter_21 h (fun v5 h => ?_)
    refine GoC.iload_n 1 dX11_letter_24 rfl ?_
    refine GC.iald dX11_letter_25 h (fun v6 h => ?_)
    refine GoC.iload_n 2 dX11_letter_26 rfl ?_
    obtain ⟨h0, h⟩ := ckd_some h
    obtain ⟨v7, σ8, hq, h⟩ := bd2_some h
    refine GC.callvI (rest := []) 2 rfl h0 rfl [.int v6, .int x2] dX11_letter_27 kk_X11_323 km_X2_letterAt.1 km_X2_letterAt.2 (ktX2_letterAt _ _ _ _ hq) rfl rfl (Nat.le_of_ble_eq_true rfl) (Nat.le_of_ble_eq_true rfl) trivial (Nat.le_of_ble_eq_true rfl) ?_
    cases h
    exact GoC.iret dX11_letter_30 rfl
  · refine GoC.iconst (-1) dX11_letter_11 (by decide) ?_
    cases h
    exact GoC.iret dX11_letter_12 rfl
set_option maxRecDepth 20000 in
theorem ktX11_letter {l : Launch} {G : Gt} {σ : Hp} (x0 : Nat) (x1 : Int32) (x2 : Int32) : ∀ Z, kX11_letter σ x0 x1 x2 = some Z → MtC l G yX11_letter cX11_letter 3 (some .int) 2 47 [G.rv x0, .int x1, .int x2] σ (some (.int Z.1)) Z.2 := fun Z h => MtC.at (by decide +kernel) ⟨G.rv_cat _, rfl, rfl, trivial⟩ (Nat.le_of_ble_eq_true rfl) (ksX11_letter x0 x1 x2 h)
/-! X11_middle -/
def kX11_middle (σ : Hp) (x0 : Nat) : Option (Int32) := (gfr σ 21 1106 x0).bind (fun v1 => ckd σ v1 18 ((kX8_findMiddle σ v1).bind (fun v2 => some v2)))
set_option maxRecDepth 20000 in
theorem ksX11_middle {l : Launch} {G : Gt} {n0 u0 : Nat} {σ : Hp} {Z : Int32} (x0 : Nat) (h : kX11_middle σ x0 = some Z) : GoC l G RX11 "middle" cX11_middle 1 (some .int) 3 69 n0 u0 (some (.int Z)) σ 0 [(0, G.rv x0)] [] σ := by
  unfold kX11_middle at h
  refine GC.aload_n 0 dX11_middle_0 rfl ?_
  refine GC.getr 11 6 rfl (by decide) (by decide) fw_X11_60 (Or.inl rfl) dX11_middle_1 h (fun v1 h => ?_)
  obtain ⟨h0, h⟩ := ckd_some h
  obtain ⟨v2, hq, h⟩ := Option.bind_eq_some_iff.mp h
  refine GC.callvI (rest := []) 8 rfl h0 rfl [] dX11_middle_4 kk_X11_326 km_X8_findMiddle.1 km_X8_findMiddle.2 (ktX8_findMiddle _ _ hq) rfl rfl (Nat.le_of_ble_eq_true rfl) (Nat.le_of_ble_eq_true rfl) trivial (Nat.le_of_ble_eq_true rfl) ?_
  cases h
  exact GoC.iret dX11_middle_7 rfl
set_option maxRecDepth 20000 in
theorem ktX11_middle {l : Launch} {G : Gt} {σ : Hp} (x0 : Nat) : ∀ Z, kX11_middle σ x0 = some Z → MtC l G yX11_middle cX11_middle 1 (some .int) 3 69 [G.rv x0] σ (some (.int Z)) σ := fun Z h => MtC.at (by decide +kernel) ⟨G.rv_cat _, trivial⟩ (Nat.le_of_ble_eq_true rfl) (ksX11_middle x0 h)
/-! X11_groups -/
def kX11_groups_25  (x0 : Nat) (x1 : Int32) (x2 : Int32) (σ : Hp) : Option (Int32 × Hp) := (gfr σ 21 1106 x0).bind (fun v1 => ckd σ v1 18 (bd2 (kX8_join σ v1 x1) (fun v2 σ3 => if x2 = (-1) then some (v2, σ3) else (gfr σ3 21 1106 x0).bind (fun v4 => ckd σ3 v4 18 ((kX8_sizeOfGroup σ3 v4 x2).bind (fun v5 => some (v5, σ3)))))))
def kX11_groups (σ : Hp) (x0 : Nat) (x1 : Int32) (x2 : Int32) : Option (Int32 × Hp) := (kX11_isFar σ x1).bind (fun v6 => if v6 = 0 then some ((-1), σ) else if x2 = (-1) then kX11_groups_25 x0 x1 x2 σ else (gfr σ 21 1100 x0).bind (fun v7 => ckd σ v7 17 ((kX7_has σ v7 x2).bind (fun v8 => if v8 = 0 then some ((-1), σ) else kX11_groups_25 x0 x1 x2 σ))))
set_option maxRecDepth 20000 in
theorem ksX11_groups_25 {l : Launch} {G : Gt} {n0 u0 : Nat} {Z : Int32 × Hp} (x0 : Nat) (x1 : Int32) (x2 : Int32) (σ : Hp) (h : kX11_groups_25 x0 x1 x2 σ = some Z) : GoC l G RX11 "groups" cX11_groups 4 (some .int) 3 67 n0 u0 (some (.int Z.1)) Z.2 25 [(0, G.rv x0), (1, .int x1), (2, .int x2)] [] σ := by
  unfold kX11_groups_25 at h
  refine GC.aload_n 0 dX11_groups_25 rfl ?_
  refine GC.getr 11 6 rfl (by decide) (by decide) fw_X11_60 (Or.inl rfl) dX11_groups_26 h (fun v1 h => ?_)
  refine GoC.iload_n 1 dX11_groups_29 rfl ?_
  obtain ⟨h0, h⟩ := ckd_some h
  obtain ⟨v2, σ3, hq, h⟩ := bd2_some h
  refine GC.callvI (rest := []) 8 rfl h0 rfl [.int x1] dX11_groups_30 kk_X11_329 km_X8_join.1 km_X8_join.2 (ktX8_join _ _ _ hq) rfl rfl (Nat.le_of_ble_eq_true rfl) (Nat.le_of_ble_eq_true rfl) trivial (Nat.le_of_ble_eq_true rfl) ?_
  refine GoC.istore_n [(0, G.rv x0), (1, .int x1), (2, .int x2), (3, .int v2)] dX11_groups_33 (by decide) rfl ?_
  refine GoC.iload_n 2 dX11_groups_34 rfl ?_
  refine GoC.iconst (-1) dX11_groups_35 (by decide) ?_
  refine GoC.icmp_ne 43 dX11_groups_36 (by decide) h (fun h => ?_) (fun h => ?_)
  · refine GC.aload_n 0 dX11_groups_43 rfl ?_
    refine GC.getr 11 6 rfl (by decide) (by decide) fw_X11_60 (Or.inl rfl) dX11_groups_44 h (fun v4 h => ?_)
    refine GoC.iload_n 2 dX11_groups_47 rfl ?_
    obtain ⟨h0, h⟩ := ckd_some h
    obtain ⟨v5, hq, h⟩ := Option.bind_eq_some_iff.mp h
    refine GC.callvI (rest := []) 8 rfl h0 rfl [.int x2] dX11_groups_48 kk_X11_332 km_X8_sizeOfGroup.1 km_X8_sizeOfGroup.2 (ktX8_sizeOfGroup _ _ _ hq) rfl rfl (Nat.le_of_ble_eq_true rfl) (Nat.le_of_ble_eq_true rfl) trivial (Nat.le_of_ble_eq_true rfl) ?_
    cases h
    exact GoC.iret dX11_groups_51 rfl
  · refine GoC.iload_n 3 dX11_groups_39 rfl ?_
    refine GoC.goto 51 dX11_groups_40 (by decide) ?_
    cases h
    exact GoC.iret dX11_groups_51 rfl
set_option maxRecDepth 20000 in
theorem ksX11_groups {l : Launch} {G : Gt} {n0 u0 : Nat} {σ : Hp} {Z : Int32 × Hp} (x0 : Nat) (x1 : Int32) (x2 : Int32) (h : kX11_groups σ x0 x1 x2 = some Z) : GoC l G RX11 "groups" cX11_groups 4 (some .int) 3 67 n0 u0 (some (.int Z.1)) Z.2 0 [(0, G.rv x0), (1, .int x1), (2, .int x2)] [] σ := by
  unfold kX11_groups at h
  refine GoC.iload_n 1 dX11_groups_0 rfl ?_
  obtain ⟨v6, hq, h⟩ := Option.bind_eq_some_iff.mp h
  refine GC.callsI (rest := []) [.int x1] dX11_groups_1 kk_X11_123 km_X11_isFar (ktX11_isFar _ _ hq) rfl rfl (Nat.le_of_ble_eq_true rfl) (Nat.le_of_ble_eq_true rfl) trivial (Nat.le_of_ble_eq_true rfl) ?_
  refine GoC.if_eq 23 dX11_groups_4 (by decide) h (fun h => ?_) (fun h => ?_)
  · refine GoC.iconst (-1) dX11_groups_23 (by decide) ?_
    cases h
    exact GoC.iret dX11_groups_24 rfl
  · refine GoC.iload_n 2 dX11_groups_7 rfl ?_
    refine GoC.iconst (-1) dX11_groups_8 (by decide) ?_
    refine GoC.icmp_eq 25 dX11_groups_9 (by decide) h (fun h => ?_) (fun h => ?_)
    · exact ksX11_groups_25 _ _ _ _ h
    · refine GC.aload_n 0 dX11_groups_12 rfl ?_
      refine GC.getr 11 0 rfl (by decide) (by decide) fw_X11_12 (Or.inl rfl) dX11_groups_13 h (fun v7 h => ?_)
      refine GoC.iload_n 2 dX11_groups_16 rfl ?_
      obtain ⟨h0, h⟩ := ckd_some h
      obtain ⟨v8, hq, h⟩ := Option.bind_eq_some_iff.mp h
      refine GC.callvI (rest := []) 7 rfl h0 rfl [.int x2] dX11_groups_17 kk_X11_101 km_X7_has.1 km_X7_has.2 (ktX7_has _ _ _ hq) rfl rfl (Nat.le_of_ble_eq_true rfl) (Nat.le_of_ble_eq_true rfl) trivial (Nat.le_of_ble_eq_true rfl) ?_
      refine GoC.if_ne 25 dX11_groups_20 (by decide) h (fun h => ?_) (fun h => ?_)
      · exact ksX11_groups_25 _ _ _ _ h
      · refine GoC.iconst (-1) dX11_groups_23 (by decide) ?_
        cases h
        exact GoC.iret dX11_groups_24 rfl
set_option maxRecDepth 20000 in
theorem ktX11_groups {l : Launch} {G : Gt} {σ : Hp} (x0 : Nat) (x1 : Int32) (x2 : Int32) : ∀ Z, kX11_groups σ x0 x1 x2 = some Z → MtC l G yX11_groups cX11_groups 4 (some .int) 3 67 [G.rv x0, .int x1, .int x2] σ (some (.int Z.1)) Z.2 := fun Z h => MtC.at (by decide +kernel) ⟨G.rv_cat _, rfl, rfl, trivial⟩ (Nat.le_of_ble_eq_true rfl) (ksX11_groups x0 x1 x2 h)
/-! X11_chain -/
def kX11_chain (σ : Hp) (x0 : Nat) (x1 : Int32) (x2 : Int32) : Option (Int32 × Hp) := (gfr σ 21 1100 x0).bind (fun v1 => ckd σ v1 17 ((kX7_has σ v1 x1).bind (fun v2 => if v2 = 0 then some ((-1), σ) else if x2 < 0 then some ((-1), σ) else (gfr σ 21 1100 x0).bind (fun v3 => (gfi σ 17 701 v3).bind (fun v4 => if x2 < v4 then (gfr σ 21 1106 x0).bind (fun v5 => ckd σ v5 18 (bd2 (kX8_linkFrom σ v5 x1) (fun v6 σ7 => (gfr σ7 21 1106 x0).bind (fun v8 => (gfr σ7 18 805 v8).bind (fun v9 => (ald σ7 1 v9 x2).bind (fun v10 => some (v10, σ7))))))) else some ((-1), σ))))))
set_option maxRecDepth 20000 in
theorem ksX11_chain {l : Launch} {G : Gt} {n0 u0 : Nat} {σ : Hp} {Z : Int32 × Hp} (x0 : Nat) (x1 : Int32) (x2 : Int32) (h : kX11_chain σ x0 x1 x2 = some Z) : GoC l G RX11 "chain" cX11_chain 3 (some .int) 3 70 n0 u0 (some (.int Z.1)) Z.2 0 [(0, G.rv x0), (1, .int x1), (2, .int x2)] [] σ := by
  unfold kX11_chain at h
  refine GC.aload_n 0 dX11_chain_0 rfl ?_
  refine GC.getr 11 0 rfl (by decide) (by decide) fw_X11_12 (Or.inl rfl) dX11_chain_1 h (fun v1 h => ?_)
  refine GoC.iload_n 1 dX11_chain_4 rfl ?_
  obtain ⟨h0, h⟩ := ckd_some h
  obtain ⟨v2, hq, h⟩ := Option.bind_eq_some_iff.mp h
  refine GC.callvI (rest := []) 7 rfl h0 rfl [.int x1] dX11_chain_5 kk_X11_101 km_X7_has.1 km_X7_has.2 (ktX7_has _ _ _ hq) rfl rfl (Nat.le_of_ble_eq_true rfl) (Nat.le_of_ble_eq_true rfl) trivial (Nat.le_of_ble_eq_true rfl) ?_
  refine GoC.if_eq 26 dX11_chain_8 (by decide) h (fun h => ?_) (fun h => ?_)
  · refine GoC.iconst (-1) dX11_chain_26 (by decide) ?_
    cases h
    exact GoC.iret dX11_chain_27 rfl
  · refine GoC.iload_n 2 dX11_chain_11 rfl ?_
    refine GoC.if_lt 26 dX11_chain_12 (by decide) h (fun h => ?_) (fun h => ?_)
    · refine GoC.iconst (-1) dX11_chain_26 (by decide) ?_
      cases h
      exact GoC.iret dX11_chain_27 rfl
    · refine GoC.iload_n 2 dX11_chain_15 rfl ?_
      refine GC.aload_n 0 dX11_chain_16 rfl ?_
      refine GC.getr 11 0 rfl (by decide) (by decide) fw_X11_12 (Or.inl rfl) dX11_chain_17 h (fun v3 h => ?_)
      refine GC.geti 7 1 rfl (by decide) (by decide) fw_X11_196 (Or.inl rfl) dX11_chain_20 h (fun v4 h => ?_)
      refine GoC.icmp_lt 28 dX11_chain_23 (by decide) h (fun h => ?_) (fun h => ?_)
      · refine GC.aload_n 0 dX11_chain_28 rfl ?_
        refine GC.getr 11 6 rfl (by decide) (by decide) fw_X11_60 (Or.inl rfl) dX11_chain_29 h (fun v5 h => ?_)
        refine GoC.iload_n 1 dX11_chain_32 rfl ?_
        obtain ⟨h0, h⟩ := ckd_some h
        obtain ⟨v6, σ7, hq, h⟩ := bd2_some h
        refine GC.callvI (rest := []) 8 rfl h0 rfl [.int x1] dX11_chain_33 kk_X11_335 km_X8_linkFrom.1 km_X8_linkFrom.2 (ktX8_linkFrom _ _ _ hq) rfl rfl (Nat.le_of_ble_eq_true rfl) (Nat.le_of_ble_eq_true rfl) trivial (Nat.le_of_ble_eq_true rfl) ?_
        refine GoC.pop dX11_chain_36 (rfl) ?_
        refine GC.aload_n 0 dX11_chain_37 rfl ?_
        refine GC.getr 11 6 rfl (by decide) (by decide) fw_X11_60 (Or.inl rfl) dX11_chain_38 h (fun v8 h => ?_)
        refine GC.getr 8 5 rfl (by decide) (by decide) fw_X11_338 (Or.inl rfl) dX11_chain_41 h (fun v9 h => ?_)
        refine GoC.iload_n 2 dX11_chain_44 rfl ?_
        refine GC.iald dX11_chain_45 h (fun v10 h => ?_)
        cases h
        exact GoC.iret dX11_chain_46 rfl
      · refine GoC.iconst (-1) dX11_chain_26 (by decide) ?_
        cases h
        exact GoC.iret dX11_chain_27 rfl
set_option maxRecDepth 20000 in
theorem ktX11_chain {l : Launch} {G : Gt} {σ : Hp} (x0 : Nat) (x1 : Int32) (x2 : Int32) : ∀ Z, kX11_chain σ x0 x1 x2 = some Z → MtC l G yX11_chain cX11_chain 3 (some .int) 3 70 [G.rv x0, .int x1, .int x2] σ (some (.int Z.1)) Z.2 := fun Z h => MtC.at (by decide +kernel) ⟨G.rv_cat _, rfl, rfl, trivial⟩ (Nat.le_of_ble_eq_true rfl) (ksX11_chain x0 x1 x2 h)
/-! X11_chainLong -/
def kX11_chainLong (σ : Hp) (x0 : Nat) (x1 : Int32) : Option (Int32 × Hp) := (gfr σ 21 1100 x0).bind (fun v1 => ckd σ v1 17 ((kX7_has σ v1 x1).bind (fun v2 => if v2 = 0 then some ((-1), σ) else (gfr σ 21 1106 x0).bind (fun v3 => ckd σ v3 18 (bd2 (kX8_linkFrom σ v3 x1) (fun v4 σ5 => some (v4, σ5)))))))
set_option maxRecDepth 20000 in
theorem ksX11_chainLong {l : Launch} {G : Gt} {n0 u0 : Nat} {σ : Hp} {Z : Int32 × Hp} (x0 : Nat) (x1 : Int32) (h : kX11_chainLong σ x0 x1 = some Z) : GoC l G RX11 "chainLong" cX11_chainLong 2 (some .int) 3 70 n0 u0 (some (.int Z.1)) Z.2 0 [(0, G.rv x0), (1, .int x1)] [] σ := by
  unfold kX11_chainLong at h
  refine GC.aload_n 0 dX11_chainLong_0 rfl ?_
  refine GC.getr 11 0 rfl (by decide) (by decide) fw_X11_12 (Or.inl rfl) dX11_chainLong_1 h (fun v1 h => ?_)
  refine GoC.iload_n 1 dX11_chainLong_4 rfl ?_
  obtain ⟨h0, h⟩ := ckd_some h
  obtain ⟨v2, hq, h⟩ := Option.bind_eq_some_iff.mp h
  refine GC.callvI (rest := []) 7 rfl h0 rfl [.int x1] dX11_chainLong_5 kk_X11_101 km_X7_has.1 km_X7_has.2 (ktX7_has _ _ _ hq) rfl rfl (Nat.le_of_ble_eq_true rfl) (Nat.le_of_ble_eq_true rfl) trivial (Nat.le_of_ble_eq_true rfl) ?_
  refine GoC.if_eq 22 dX11_chainLong_8 (by decide) h (fun h => ?_) (fun h => ?_)
  · refine GoC.iconst (-1) dX11_chainLong_22 (by decide) ?_
    cases h
    exact GoC.iret dX11_chainLong_23 rfl
  · refine GC.aload_n 0 dX11_chainLong_11 rfl ?_
    refine GC.getr 11 6 rfl (by decide) (by decide) fw_X11_60 (Or.inl rfl) dX11_chainLong_12 h (fun v3 h => ?_)
    refine GoC.iload_n 1 dX11_chainLong_15 rfl ?_
    obtain ⟨h0, h⟩ := ckd_some h
    obtain ⟨v4, σ5, hq, h⟩ := bd2_some h
    refine GC.callvI (rest := []) 8 rfl h0 rfl [.int x1] dX11_chainLong_16 kk_X11_335 km_X8_linkFrom.1 km_X8_linkFrom.2 (ktX8_linkFrom _ _ _ hq) rfl rfl (Nat.le_of_ble_eq_true rfl) (Nat.le_of_ble_eq_true rfl) trivial (Nat.le_of_ble_eq_true rfl) ?_
    refine GoC.goto 23 dX11_chainLong_19 (by decide) ?_
    cases h
    exact GoC.iret dX11_chainLong_23 rfl
set_option maxRecDepth 20000 in
theorem ktX11_chainLong {l : Launch} {G : Gt} {σ : Hp} (x0 : Nat) (x1 : Int32) : ∀ Z, kX11_chainLong σ x0 x1 = some Z → MtC l G yX11_chainLong cX11_chainLong 2 (some .int) 3 70 [G.rv x0, .int x1] σ (some (.int Z.1)) Z.2 := fun Z h => MtC.at (by decide +kernel) ⟨G.rv_cat _, rfl, trivial⟩ (Nat.le_of_ble_eq_true rfl) (ksX11_chainLong x0 x1 h)
/-! X11_image -/
def kX11_image (σ : Hp) (x0 : Nat) : Option (Int32 × Hp) := (gfr σ 21 1107 x0).bind (fun v1 => (gfr σ 21 1100 x0).bind (fun v2 => ckd σ v1 14 ((kX4_setImage σ v1 v2).bind (fun σ3 => (gfr σ3 21 1100 x0).bind (fun v4 => (gfi σ3 17 701 v4).bind (fun v5 => some (v5, σ3)))))))
set_option maxRecDepth 20000 in
theorem ksX11_image {l : Launch} {G : Gt} {n0 u0 : Nat} {σ : Hp} {Z : Int32 × Hp} (x0 : Nat) (h : kX11_image σ x0 = some Z) : GoC l G RX11 "image" cX11_image 1 (some .int) 10 245 n0 u0 (some (.int Z.1)) Z.2 0 [(0, G.rv x0)] [] σ := by
  unfold kX11_image at h
  refine GC.aload_n 0 dX11_image_0 rfl ?_
  refine GC.getr 11 7 rfl (by decide) (by decide) fw_X11_67 (Or.inl rfl) dX11_image_1 h (fun v1 h => ?_)
  refine GC.aload_n 0 dX11_image_4 rfl ?_
  refine GC.getr 11 0 rfl (by decide) (by decide) fw_X11_12 (Or.inl rfl) dX11_image_5 h (fun v2 h => ?_)
  obtain ⟨h0, h⟩ := ckd_some h
  obtain ⟨σ3, hq, h⟩ := Option.bind_eq_some_iff.mp h
  refine GC.callvV (rest := []) 4 rfl h0 rfl [G.rv v2] dX11_image_8 kk_X11_348 km_X4_setImage.1 km_X4_setImage.2 (ktX4_setImage _ _ _ hq) rfl rfl (Nat.le_of_ble_eq_true rfl) (Nat.le_of_ble_eq_true rfl) trivial (Nat.le_of_ble_eq_true rfl) ?_
  refine GC.aload_n 0 dX11_image_11 rfl ?_
  refine GC.getr 11 0 rfl (by decide) (by decide) fw_X11_12 (Or.inl rfl) dX11_image_12 h (fun v4 h => ?_)
  refine GC.geti 7 1 rfl (by decide) (by decide) fw_X11_196 (Or.inl rfl) dX11_image_15 h (fun v5 h => ?_)
  cases h
  exact GoC.iret dX11_image_18 rfl
set_option maxRecDepth 20000 in
theorem ktX11_image {l : Launch} {G : Gt} {σ : Hp} (x0 : Nat) : ∀ Z, kX11_image σ x0 = some Z → MtC l G yX11_image cX11_image 1 (some .int) 10 245 [G.rv x0] σ (some (.int Z.1)) Z.2 := fun Z h => MtC.at (by decide +kernel) ⟨G.rv_cat _, trivial⟩ (Nat.le_of_ble_eq_true rfl) (ksX11_image x0 h)
/-! X11_back -/
def kX11_back (σ : Hp) (x0 : Nat) : Option (Int32 × Hp) := (gfr σ 21 1107 x0).bind (fun v1 => (gfr σ 21 1100 x0).bind (fun v2 => ckd σ v1 14 ((kX4_goBack σ v1 v2).bind (fun σ3 => (gfr σ3 21 1102 x0).bind (fun v4 => (gfr σ3 21 1100 x0).bind (fun v5 => ckd σ3 v4 11 ((kX1_follow σ3 v4 v5).bind (fun σ6 => (gfr σ6 21 1100 x0).bind (fun v7 => (gfi σ6 17 701 v7).bind (fun v8 => some (v8, σ6)))))))))))
set_option maxRecDepth 20000 in
theorem ksX11_back {l : Launch} {G : Gt} {n0 u0 : Nat} {σ : Hp} {Z : Int32 × Hp} (x0 : Nat) (h : kX11_back σ x0 = some Z) : GoC l G RX11 "back" cX11_back 1 (some .int) 10 245 n0 u0 (some (.int Z.1)) Z.2 0 [(0, G.rv x0)] [] σ := by
  unfold kX11_back at h
  refine GC.aload_n 0 dX11_back_0 rfl ?_
  refine GC.getr 11 7 rfl (by decide) (by decide) fw_X11_67 (Or.inl rfl) dX11_back_1 h (fun v1 h => ?_)
  refine GC.aload_n 0 dX11_back_4 rfl ?_
  refine GC.getr 11 0 rfl (by decide) (by decide) fw_X11_12 (Or.inl rfl) dX11_back_5 h (fun v2 h => ?_)
  obtain ⟨h0, h⟩ := ckd_some h
  obtain ⟨σ3, hq, h⟩ := Option.bind_eq_some_iff.mp h
  refine GC.callvV (rest := []) 4 rfl h0 rfl [G.rv v2] dX11_back_8 kk_X11_351 km_X4_goBack.1 km_X4_goBack.2 (ktX4_goBack _ _ _ hq) rfl rfl (Nat.le_of_ble_eq_true rfl) (Nat.le_of_ble_eq_true rfl) trivial (Nat.le_of_ble_eq_true rfl) ?_
  refine GC.aload_n 0 dX11_back_11 rfl ?_
  refine GC.getr 11 2 rfl (by decide) (by decide) fw_X11_28 (Or.inl rfl) dX11_back_12 h (fun v4 h => ?_)
  refine GC.aload_n 0 dX11_back_15 rfl ?_
  refine GC.getr 11 0 rfl (by decide) (by decide) fw_X11_12 (Or.inl rfl) dX11_back_16 h (fun v5 h => ?_)
  obtain ⟨h0, h⟩ := ckd_some h
  obtain ⟨σ6, hq, h⟩ := Option.bind_eq_some_iff.mp h
  refine GC.callvV (rest := []) 1 rfl h0 rfl [G.rv v5] dX11_back_19 kk_X11_114 km_X1_follow.1 km_X1_follow.2 (ktX1_follow _ _ _ hq) rfl rfl (Nat.le_of_ble_eq_true rfl) (Nat.le_of_ble_eq_true rfl) trivial (Nat.le_of_ble_eq_true rfl) ?_
  refine GC.aload_n 0 dX11_back_22 rfl ?_
  refine GC.getr 11 0 rfl (by decide) (by decide) fw_X11_12 (Or.inl rfl) dX11_back_23 h (fun v7 h => ?_)
  refine GC.geti 7 1 rfl (by decide) (by decide) fw_X11_196 (Or.inl rfl) dX11_back_26 h (fun v8 h => ?_)
  cases h
  exact GoC.iret dX11_back_29 rfl
set_option maxRecDepth 20000 in
theorem ktX11_back {l : Launch} {G : Gt} {σ : Hp} (x0 : Nat) : ∀ Z, kX11_back σ x0 = some Z → MtC l G yX11_back cX11_back 1 (some .int) 10 245 [G.rv x0] σ (some (.int Z.1)) Z.2 := fun Z h => MtC.at (by decide +kernel) ⟨G.rv_cat _, trivial⟩ (Nat.le_of_ble_eq_true rfl) (ksX11_back x0 h)
/-! X11_steps -/
def kX11_steps (σ : Hp) (x0 : Nat) : Option (Int32) := (gfr σ 21 1107 x0).bind (fun v1 => ckd σ v1 14 ((kX4_countSteps σ v1).bind (fun v2 => some v2)))
set_option maxRecDepth 20000 in
theorem ksX11_steps {l : Launch} {G : Gt} {n0 u0 : Nat} {σ : Hp} {Z : Int32} (x0 : Nat) (h : kX11_steps σ x0 = some Z) : GoC l G RX11 "steps" cX11_steps 1 (some .int) 2 40 n0 u0 (some (.int Z)) σ 0 [(0, G.rv x0)] [] σ := by
  unfold kX11_steps at h
  refine GC.aload_n 0 dX11_steps_0 rfl ?_
  refine GC.getr 11 7 rfl (by decide) (by decide) fw_X11_67 (Or.inl rfl) dX11_steps_1 h (fun v1 h => ?_)
  obtain ⟨h0, h⟩ := ckd_some h
  obtain ⟨v2, hq, h⟩ := Option.bind_eq_some_iff.mp h
  refine GC.callvI (rest := []) 4 rfl h0 rfl [] dX11_steps_4 kk_X11_190 km_X4_countSteps.1 km_X4_countSteps.2 (ktX4_countSteps _ _ hq) rfl rfl (Nat.le_of_ble_eq_true rfl) (Nat.le_of_ble_eq_true rfl) trivial (Nat.le_of_ble_eq_true rfl) ?_
  cases h
  exact GoC.iret dX11_steps_7 rfl
set_option maxRecDepth 20000 in
theorem ktX11_steps {l : Launch} {G : Gt} {σ : Hp} (x0 : Nat) : ∀ Z, kX11_steps σ x0 = some Z → MtC l G yX11_steps cX11_steps 1 (some .int) 2 40 [G.rv x0] σ (some (.int Z)) σ := fun Z h => MtC.at (by decide +kernel) ⟨G.rv_cat _, trivial⟩ (Nat.le_of_ble_eq_true rfl) (ksX11_steps x0 h)
