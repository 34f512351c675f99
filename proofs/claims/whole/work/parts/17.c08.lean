/-! X10_pageAt -/
def kX10_pageAt (σ : Hp) (x0 : Nat) (x1 : Int32) : Option (Nat × Hp) := if x1 < 0 then some (0, σ) else (gfr σ 20 1000 x0).bind (fun v1 => (gfi σ 17 709 v1).bind (fun v2 => if x1 < v2 then ckd σ x0 20 ((kX10_renew σ x0).bind (fun σ3 => (gfr σ3 20 1002 x0).bind (fun v4 => ckd σ3 v4 22 ((kJx4a65c_size_8abf5 σ3 v4).bind (fun v5 => if v5 ≤ x1 then some (0, σ3) else (gfr σ3 20 1002 x0).bind (fun v6 => ckd σ3 v6 22 ((kJx4a65c_get_915e3 σ3 v6 x1).bind (fun v7 => ckc σ3 v7 13 (some (v7, σ3)))))))))) else some (0, σ)))
set_option maxRecDepth 20000 in
theorem ksX10_pageAt {l : Launch} {G : Gt} {n0 u0 : Nat} {σ : Hp} {Z : Nat × Hp} (x0 : Nat) (x1 : Int32) (h : kX10_pageAt σ x0 x1 = some Z) : GoC l G RX10 "pageAt" cX10_pageAt 2 (some (.object "LikePages$Page")) 8 205 n0 u0 (some (G.rv Z.1)) Z.2 0 [(0, G.rv x0), (1, .int x1)] [] σ := by
  unfold kX10_pageAt at h
  refine GoC.iload_n 1 dX10_pageAt_0 rfl ?_
  refine GoC.if_lt 15 dX10_pageAt_1 (by decide) h (fun h => ?_) (fun h => ?_)
  · refine GC.null dX10_pageAt_15 ?_
    cases h
    exact GC.aret dX10_pageAt_16 rfl (Or.inl ⟨_, rfl⟩)
  · refine GoC.iload_n 1 dX10_pageAt_4 rfl ?_
    refine GC.aload_n 0 dX10_pageAt_5 rfl ?_
    refine GC.getr 10 0 rfl (by decide) (by decide) fw_X10_18 (Or.inl rfl) dX10_pageAt_6 h (fun v1 h => ?_)
    refine GC.geti 7 9 rfl (by decide) (by decide) fw_X10_26 (Or.inl rfl) dX10_pageAt_9 h (fun v2 h => ?_)
    refine GoC.icmp_lt 17 dX10_pageAt_12 (by decide) h (fun h => ?_) (fun h => ?_)
    · refine GC.aload_n 0 dX10_pageAt_17 rfl ?_
      obtain ⟨h0, h⟩ := ckd_some h
      obtain ⟨σ3, hq, h⟩ := Option.bind_eq_some_iff.mp h
      refine GC.callvV (rest := []) 10 rfl h0 rfl [] dX10_pageAt_18 kk_X10_32 km_X10_renew.1 km_X10_renew.2 (ktX10_renew _ _ hq) rfl rfl (Nat.le_of_ble_eq_true rfl) (Nat.le_of_ble_eq_true rfl) trivial (Nat.le_of_ble_eq_true rfl) ?_
      refine GoC.iload_n 1 dX10_pageAt_21 rfl ?_
      refine GC.aload_n 0 dX10_pageAt_22 rfl ?_
      refine GC.getr 10 2 rfl (by decide) (by decide) fw_X10_12 (Or.inl rfl) dX10_pageAt_23 h (fun v4 h => ?_)
      obtain ⟨h0, h⟩ := ckd_some h
      obtain ⟨v5, hq, h⟩ := Option.bind_eq_some_iff.mp h
      refine GC.callvI (rest := [.int x1]) 12 rfl h0 rfl [] dX10_pageAt_26 kk_X10_35 km_Jx4a65c_size_8abf5.1 km_Jx4a65c_size_8abf5.2 (ktJx4a65c_size_8abf5 _ _ hq) rfl rfl (Nat.le_of_ble_eq_true rfl) (Nat.le_of_ble_eq_true rfl) ⟨rfl, trivial⟩ (Nat.le_of_ble_eq_true rfl) ?_
      refine GoC.icmp_ge 46 dX10_pageAt_29 (by decide) h (fun h => ?_) (fun h => ?_)
      · refine GC.null dX10_pageAt_46 ?_
        cases h
        exact GC.aret dX10_pageAt_47 rfl (Or.inl ⟨_, rfl⟩)
      · refine GC.aload_n 0 dX10_pageAt_32 rfl ?_
        refine GC.getr 10 2 rfl (by decide) (by decide) fw_X10_12 (Or.inl rfl) dX10_pageAt_33 h (fun v6 h => ?_)
        refine GoC.iload_n 1 dX10_pageAt_36 rfl ?_
        obtain ⟨h0, h⟩ := ckd_some h
        obtain ⟨v7, hq, h⟩ := Option.bind_eq_some_iff.mp h
        refine GC.callvR (rest := []) 12 rfl h0 rfl [.int x1] dX10_pageAt_37 kk_X10_39 km_Jx4a65c_get_915e3.1 km_Jx4a65c_get_915e3.2 (ktJx4a65c_get_915e3 _ _ _ hq) rfl rfl (Nat.le_of_ble_eq_true rfl) (Nat.le_of_ble_eq_true rfl) trivial (Nat.le_of_ble_eq_true rfl) ?_
        refine GC.castS (c := 3) rfl cl_X10_43 dX10_pageAt_40 h (fun h => ?_)
        refine GoC.goto 47 dX10_pageAt_43 (by decide) ?_
        cases h
        exact GC.aret dX10_pageAt_47 rfl (Or.inl ⟨_, rfl⟩)
    · refine GC.null dX10_pageAt_15 ?_
      cases h
      exact GC.aret dX10_pageAt_16 rfl (Or.inl ⟨_, rfl⟩)
set_option maxRecDepth 20000 in
theorem ktX10_pageAt {l : Launch} {G : Gt} {σ : Hp} (x0 : Nat) (x1 : Int32) : ∀ Z, kX10_pageAt σ x0 x1 = some Z → MtC l G yX10_pageAt cX10_pageAt 2 (some (.object "LikePages$Page")) 8 205 [G.rv x0, .int x1] σ (some (G.rv Z.1)) Z.2 := fun Z h => MtC.at (by decide +kernel) ⟨G.rv_cat _, rfl, trivial⟩ (Nat.le_of_ble_eq_true rfl) (ksX10_pageAt x0 x1 h)
/-! X10_placeOfLeaf -/
def kX10_placeOfLeaf_47 (k6 : Nat → Int32 → Int32 → Hp → Option (Int32 × Hp)) (x0 : Nat) (x1 : Int32) (x2 : Int32) (σ : Hp) : Option (Int32 × Hp) := k6 x0 x1 (x2 + 1) σ
def kX10_placeOfLeaf_6  : Nat → Nat → Int32 → Int32 → Hp → Option (Int32 × Hp)
  | 0, _, _, _, _ => none
  | n + 1, x0, x1, x2, σ => (gfr σ 20 1002 x0).bind (fun v1 => ckd σ v1 22 ((kJx4a65c_size_8abf5 σ v1).bind (fun v2 => if v2 ≤ x2 then some ((-1), σ) else (gfr σ 20 1002 x0).bind (fun v3 => ckd σ v3 22 ((kJx4a65c_get_915e3 σ v3 x2).bind (fun v4 => ckc σ v4 13 ((gfi σ 13 300 v4).bind (fun v5 => if v5 = 0 then kX10_placeOfLeaf_47 (kX10_placeOfLeaf_6 n) x0 x1 x2 σ else ckd σ v4 13 ((kX3_placeIn σ v4 x1).bind (fun v6 => if v6 = (-1) then kX10_placeOfLeaf_47 (kX10_placeOfLeaf_6 n) x0 x1 x2 σ else some (x2, σ)))))))))))
def kX10_placeOfLeaf (σ : Hp) (x0 : Nat) (x1 : Int32) : Option (Int32 × Hp) := ckd σ x0 20 ((kX10_renew σ x0).bind (fun σ7 => kX10_placeOfLeaf_6 FU x0 x1 0 σ7))
set_option maxRecDepth 20000 in
theorem ksX10_placeOfLeaf_47 {l : Launch} {G : Gt} {n0 u0 : Nat} {Z : Int32 × Hp} (k6 : Nat → Int32 → Int32 → Hp → Option (Int32 × Hp)) (h6 : ∀ (x0 : Nat) (x1 : Int32) (x2 : Int32) (σ : Hp), k6 x0 x1 x2 σ = some Z → GoC l G RX10 "placeOfLeaf" cX10_placeOfLeaf 4 (some .int) 8 205 n0 u0 (some (.int Z.1)) Z.2 6 [(0, G.rv x0), (1, .int x1), (2, .int x2)] [] σ) (x0 : Nat) (x1 : Int32) (x2 : Int32) (σ : Hp) (h : kX10_placeOfLeaf_47 k6 x0 x1 x2 σ = some Z) : GoC l G RX10 "placeOfLeaf" cX10_placeOfLeaf 4 (some .int) 8 205 n0 u0 (some (.int Z.1)) Z.2 47 [(0, G.rv x0), (1, .int x1), (2, .int x2)] [] σ := by
  unfold kX10_placeOfLeaf_47 at h
  refine GoC.iinc (w := 1) 2 [(0, G.rv x0), (1, .int x1), (2, .int (x2 + 1))] dX10_placeOfLeaf_47 rfl (by decide) (by decide) rfl ?_
  refine GoC.goto 6 dX10_placeOfLeaf_50 (by decide) ?_
  exact h6 _ _ _ _ h
set_option maxRecDepth 20000 in
theorem ksX10_placeOfLeaf_6 {l : Launch} {G : Gt} {n0 u0 : Nat} {Z : Int32 × Hp} (n : Nat) : ∀ (x0 : Nat) (x1 : Int32) (x2 : Int32) (σ : Hp), kX10_placeOfLeaf_6 n x0 x1 x2 σ = some Z → GoC l G RX10 "placeOfLeaf" cX10_placeOfLeaf 4 (some .int) 8 205 n0 u0 (some (.int Z.1)) Z.2 6 [(0, G.rv x0), (1, .int x1), (2, .int x2)] [] σ := by
  induction n with
  | zero => intro x0 x1 x2 σ h; rw [kX10_placeOfLeaf_6] at h; cases h
  | succ n ih =>
    intro x0 x1 x2 σ h
    rw [kX10_placeOfLeaf_6] at h
    refine GoC.iload_n 2 dX10_placeOfLeaf_6 rfl ?_
    refine GC.aload_n 0 dX10_placeOfLeaf_7 rfl ?_
    refine GC.getr 10 2 rfl (by decide) (by decide) fw_X10_12 (Or.inl rfl) dX10_placeOfLeaf_8 h (fun v1 h => ?_)
    obtain ⟨h0, h⟩ := ckd_some h
    obtain ⟨v2, hq, h⟩ := Option.bind_eq_some_iff.mp h
    refine GC.callvI (rest := [.int x2]) 12 rfl h0 rfl [] dX10_placeOfLeaf_11 kk_X10_35 km_Jx4a65c_size_8abf5.1 km_Jx4a65c_size_8abf5.2 (ktJx4a65c_size_8abf5 _ _ hq) rfl rfl (Nat.le_of_ble_eq_true rfl) (Nat.le_of_ble_eq_true rfl) ⟨rfl, trivial⟩ (Nat.le_of_ble_eq_true rfl) ?_
    refine GoC.icmp_ge 53 dX10_placeOfLeaf_14 (by decide) h (fun h => ?_) (fun h => ?_)
    · refine GoC.iconst (-1) dX10_placeOfLeaf_53 (by decide) ?_
      cases h
      exact GoC.iret dX10_placeOfLeaf_54 rfl
    · refine GC.aload_n 0 dX10_placeOfLeaf_17 rfl ?_
      refine GC.getr 10 2 rfl (by decide) (by decide) fw_X10_12 (Or.inl rfl) dX10_placeOfLeaf_18 h (fun v3 h => ?_)
      refine GoC.iload_n 2 dX10_placeOfLeaf_21 rfl ?_
      obtain ⟨h0, h⟩ := ckd_some h
      obtain ⟨v4, hq, h⟩ := Option.bind_eq_some_iff.mp h
      refine GC.callvR (rest := []) 12 rfl h0 rfl [.int x2] dX10_placeOfLeaf_22 kk_X10_39 km_Jx4a65c_get_915e3.1 km_Jx4a65c_get_915e3.2 (ktJx4a65c_get_915e3 _ _ _ hq) rfl rfl (Nat.le_of_ble_eq_true rfl) (Nat.le_of_ble_eq_true rfl) trivial (Nat.le_of_ble_eq_true rfl) ?_
      refine GC.castS (c := 3) rfl cl_X10_43 dX10_placeOfLeaf_25 h (fun h => ?_)
      refine GC.astore_n [(0, G.rv x0), (1, .int x1), (2, .int x2), (3, G.rv v4)] dX10_placeOfLeaf_28 (by decide) rfl ?_
      refine GC.aload_n 3 dX10_placeOfLeaf_29 rfl ?_
      refine GC.geti 3 0 rfl (by decide) (by decide) fw_X10_45 (Or.inl rfl) dX10_placeOfLeaf_30 h (fun v5 h => ?_)
      refine GoC.if_eq 47 dX10_placeOfLeaf_33 (by decide) h (fun h => ?_) (fun h => ?_)
      · refine GoC.sub [0, 1, 2] rfl ?_
        exact ksX10_placeOfLeaf_47 _ ih _ _ _ _ h
      · refine GC.aload_n 3 dX10_placeOfLeaf_36 rfl ?_
        refine GoC.iload_n 1 dX10_placeOfLeaf_37 rfl ?_
        obtain ⟨h0, h⟩ := ckd_some h
        obtain ⟨v6, hq, h⟩ := Option.bind_eq_some_iff.mp h
        refine GC.callvI (rest := []) 3 rfl h0 rfl [.int x1] dX10_placeOfLeaf_38 kk_X10_49 km_X3_placeIn.1 km_X3_placeIn.2 (ktX3_placeIn _ _ _ hq) rfl rfl (Nat.le_of_ble_eq_true rfl) (Nat.le_of_ble_eq_true rfl) trivial (Nat.le_of_ble_eq_true rfl) ?_
        refine GoC.iconst (-1) dX10_placeOfLeaf_41 (by decide) ?_
        refine GoC.icmp_eq 47 dX10_placeOfLeaf_42 (by decide) h (fun h => ?_) (fun h => ?_)
        · refine GoC.sub [0, 1, 2] rfl ?_
          exact ksX10_placeOfLeaf_47 _ ih _ _ _ _ h
        · refine GoC.iload_n 2 dX10_placeOfLeaf_45 rfl ?_
          cases h
          exact GoC.iret dX10_placeOfLeaf_46 rfl
set_option maxRecDepth 20000 in
theorem ksX10_placeOfLeaf {l : Launch} {G : Gt} {n0 u0 : Nat} {σ : Hp} {Z : Int32 × Hp} (x0 : Nat) (x1 : Int32) (h : kX10_placeOfLeaf σ x0 x1 = some Z) : GoC l G RX10 "placeOfLeaf" cX10_placeOfLeaf 4 (some .int) 8 205 n0 u0 (some (.int Z.1)) Z.2 0 [(0, G.rv x0), (1, .int x1)] [] σ := by
  unfold kX10_placeOfLeaf at h
  refine GC.aload_n 0 dX10_placeOfLeaf_0 rfl ?_
  obtain ⟨h0, h⟩ := ckd_some h
  obtain ⟨σ7, hq, h⟩ := Option.bind_eq_some_iff.mp h
  refine GC.callvV (rest := []) 10 rfl h0 rfl [] dX10_placeOfLeaf_1 kk_X10_32 km_X10_renew.1 km_X10_renew.2 (ktX10_renew _ _ hq) rfl rfl (Nat.le_of_ble_eq_true rfl) (Nat.le_of_ble_eq_true rfl) trivial (Nat.le_of_ble_eq_true rfl) ?_
  refine GoC.iconst 0 dX10_placeOfLeaf_4 (by decide) ?_
  refine GoC.istore_n [(0, G.rv x0), (1, .int x1), (2, .int 0)] dX10_placeOfLeaf_5 (by decide) rfl ?_
  exact ksX10_placeOfLeaf_6 _ _ _ _ _ h
set_option maxRecDepth 20000 in
theorem ktX10_placeOfLeaf {l : Launch} {G : Gt} {σ : Hp} (x0 : Nat) (x1 : Int32) : ∀ Z, kX10_placeOfLeaf σ x0 x1 = some Z → MtC l G yX10_placeOfLeaf cX10_placeOfLeaf 4 (some .int) 8 205 [G.rv x0, .int x1] σ (some (.int Z.1)) Z.2 := fun Z h => MtC.at (by decide +kernel) ⟨G.rv_cat _, rfl, trivial⟩ (Nat.le_of_ble_eq_true rfl) (ksX10_placeOfLeaf x0 x1 h)
/-! X10_greatestBelow -/
def kX10_greatestBelow_129 (σ : Hp) (k23 : Nat → Nat → Int32 → Nat → Int32 → Int32 → Option (Int32)) (x0 : Nat) (x1 : Nat) (x2 : Int32) (x3 : Nat) (x4 : Int32) (x5 : Int32) : Option (Int32) := k23 x0 x1 x2 x3 x4 (x5 + 1)
def kX10_greatestBelow_121 (σ : Hp) (k23 : Nat → Nat → Int32 → Nat → Int32 → Int32 → Option (Int32)) (k66 : Nat → Nat → Int32 → Nat → Int32 → Int32 → Nat → Int32 → Option (Int32)) (x0 : Nat) (x1 : Nat) (x2 : Int32) (x3 : Nat) (x5 : Int32) (x6 : Nat) (x7 : Int32) (y0 : Int32) : Option (Int32) := k66 x0 x1 x2 x3 y0 x5 x6 (x7 + 1)
def kX10_greatestBelow_66 (σ : Hp) (k23 : Nat → Nat → Int32 → Nat → Int32 → Int32 → Option (Int32)) : Nat → Nat → Nat → Int32 → Nat → Int32 → Int32 → Nat → Int32 → Option (Int32)
  | 0, _, _, _, _, _, _, _, _ => none
  | n + 1, x0, x1, x2, x3, x4, x5, x6, x7 => (gfi σ 13 302 x6).bind (fun v1 => if v1 ≤ x7 then kX10_greatestBelow_129 σ k23 x0 x1 x2 x3 x4 x5 else (gfi σ 13 300 x6).bind (fun v2 => if v2 = 0 then kX10_greatestBelow_129 σ k23 x0 x1 x2 x3 x4 x5 else (gfr σ 20 1001 x0).bind (fun v3 => (gfr σ 13 303 x1).bind (fun v4 => (ald σ 1 v4 x2).bind (fun v5 => (gfr σ 13 303 x6).bind (fun v6 => (ald σ 1 v6 x7).bind (fun v7 => ckd σ v3 11 ((kX1_of σ v3 v5 v7).bind (fun v8 => if v8 ≤ x4 then kX10_greatestBelow_121 σ k23 (kX10_greatestBelow_66 σ k23 n) x0 x1 x2 x3 x5 x6 x7 x4 else kX10_greatestBelow_121 σ k23 (kX10_greatestBelow_66 σ k23 n) x0 x1 x2 x3 x5 x6 x7 v8)))))))))
def kX10_greatestBelow_23 (σ : Hp)  : Nat → Nat → Nat → Int32 → Nat → Int32 → Int32 → Option (Int32)
  | 0, _, _, _, _, _, _ => none
  | n + 1, x0, x1, x2, x3, x4, x5 => (gfi σ 13 306 x3).bind (fun v9 => (gfi σ 13 307 x3).bind (fun v10 => if (v9 + v10) ≤ x5 then some x4 else (gfr σ 20 1002 x0).bind (fun v11 => ckd σ v11 22 ((kJx4a65c_size_8abf5 σ v11).bind (fun v12 => if v12 ≤ x5 then some x4 else (gfr σ 20 1002 x0).bind (fun v13 => ckd σ v13 22 ((kJx4a65c_get_915e3 σ v13 x5).bind (fun v14 => ckc σ v14 13 (kX10_greatestBelow_66 σ (kX10_greatestBelow_23 σ n) FU x0 x1 x2 x3 x4 x5 v14 0)))))))))
def kX10_greatestBelow (σ : Hp) (x0 : Nat) (x1 : Nat) (x2 : Int32) : Option (Int32) := (gfr σ 20 1000 x0).bind (fun v15 => (gfr σ 13 305 x1).bind (fun v16 => (ald σ 1 v16 x2).bind (fun v17 => ckd σ v15 17 ((kX7_at σ v15 v17).bind (fun v18 => (gfi σ 13 306 v18).bind (fun v19 => kX10_greatestBelow_23 σ FU x0 x1 x2 v18 0 v19))))))
set_option maxRecDepth 20000 in
theorem ksX10_greatestBelow_129 {l : Launch} {G : Gt} {n0 u0 : Nat} {σ : Hp} {Z : Int32} (k23 : Nat → Nat → Int32 → Nat → Int32 → Int32 → Option (Int32)) (h23 : ∀ (x0 : Nat) (x1 : Nat) (x2 : Int32) (x3 : Nat) (x4 : Int32) (x5 : Int32), k23 x0 x1 x2 x3 x4 x5 = some Z → GoC l G RX10 "greatestBelow" cX10_greatestBelow 9 (some .int) 4 85 n0 u0 (some (.int Z)) σ 23 [(0, G.rv x0), (1, G.rv x1), (2, .int x2), (3, G.rv x3), (4, .int x4), (5, .int x5)] [] σ) (x0 : Nat) (x1 : Nat) (x2 : Int32) (x3 : Nat) (x4 : Int32) (x5 : Int32) (h : kX10_greatestBelow_129 σ k23 x0 x1 x2 x3 x4 x5 = some Z) : GoC l G RX10 "greatestBelow" cX10_greatestBelow 9 (some .int) 4 85 n0 u0 (some (.int Z)) σ 129 [(0, G.rv x0), (1, G.rv x1), (2, .int x2), (3, G.rv x3), (4, .int x4), (5, .int x5)] [] σ := by
  unfold kX10_greatestBelow_129 at h
  refine GoC.iinc (w := 1) 5 [(0, G.rv x0), (1, G.rv x1), (2, .int x2), (3, G.rv x3), (4, .int x4), (5, .int (x5 + 1))] dX10_greatestBelow_129 rfl (by decide) (by decide) rfl ?_
  refine GoC.goto 23 dX10_greatestBelow_132 (by decide) ?_
  exact h23 _ _ _ _ _ _ h
set_option maxRecDepth 20000 in
theorem ksX10_greatestBelow_121 {l : Launch} {G : Gt} {n0 u0 : Nat} {σ : Hp} {Z : Int32} (k23 : Nat → Nat → Int32 → Nat → Int32 → Int32 → Option (Int32)) (h23 : ∀ (x0 : Nat) (x1 : Nat) (x2 : Int32) (x3 : Nat) (x4 : Int32) (x5 : Int32), k23 x0 x1 x2 x3 x4 x5 = some Z → GoC l G RX10 "greatestBelow" cX10_greatestBelow 9 (some .int) 4 85 n0 u0 (some (.int Z)) σ 23 [(0, G.rv x0), (1, G.rv x1), (2, .int x2), (3, G.rv x3), (4, .int x4), (5, .int x5)] [] σ) (k66 : Nat → Nat → Int32 → Nat → Int32 → Int32 → Nat → Int32 → Option (Int32)) (h66 : ∀ (x0 : Nat) (x1 : Nat) (x2 : Int32) (x3 : Nat) (x4 : Int32) (x5 : Int32) (x6 : Nat) (x7 : Int32), k66 x0 x1 x2 x3 x4 x5 x6 x7 = some Z → GoC l G RX10 "greatestBelow" cX10_greatestBelow 9 (some .int) 4 85 n0 u0 (some (.int Z)) σ 66 [(0, G.rv x0), (1, G.rv x1), (2, .int x2), (3, G.rv x3), (4, .int x4), (5, .int x5), (6, G.rv x6), (7, .int x7)] [] σ) (x0 : Nat) (x1 : Nat) (x2 : Int32) (x3 : Nat) (x5 : Int32) (x6 : Nat) (x7 : Int32) (y0 : Int32) (h : kX10_greatestBelow_121 σ k23 k66 x0 x1 x2 x3 x5 x6 x7 y0 = some Z) : GoC l G RX10 "greatestBelow" cX10_greatestBelow 9 (some .int) 4 85 n0 u0 (some (.int Z)) σ 121 [(0, G.rv x0), (1, G.rv x1), (2, .int x2), (3, G.rv x3), (5, .int x5), (6, G.rv x6), (7, .int x7)] [.int y0] σ := by
  unfold kX10_greatestBelow_121 at h
  refine GoC.istore [(0, G.rv x0), (1, G.rv x1), (2, .int x2), (3, G.rv x3), (4, .int y0), (5, .int x5), (6, G.rv x6), (7, .int x7)] dX10_greatestBelow_121 (by decide) rfl ?_
  refine GoC.iinc (w := 1) 7 [(0, G.rv x0), (1, G.rv x1), (2, .int x2), (3, G.rv x3), (4, .int y0), (5, .int x5), (6, G.rv x6), (7, .int (x7 + 1))] dX10_greatestBelow_123 rfl (by decide) (by decide) rfl ?_
  refine GoC.goto 66 dX10_greatestBelow_126 (by decide) ?_
  exact h66 _ _ _ _ _ _ _ _ h
set_option maxRecDepth 20000 in
theorem ksX10_greatestBelow_66 {l : Launch} {G : Gt} {n0 u0 : Nat} {σ : Hp} {Z : Int32} (k23 : Nat → Nat → Int32 → Nat → Int32 → Int32 → Option (Int32)) (h23 : ∀ (x0 : Nat) (x1 : Nat) (x2 : Int32) (x3 : Nat) (x4 : Int32) (x5 : Int32), k23 x0 x1 x2 x3 x4 x5 = some Z → GoC l G RX10 "greatestBelow" cX10_greatestBelow 9 (some .int) 4 85 n0 u0 (some (.int Z)) σ 23 [(0, G.rv x0), (1, G.rv x1), (2, .int x2), (3, G.rv x3), (4, .int x4), (5, .int x5)] [] σ) (n : Nat) : ∀ (x0 : Nat) (x1 : Nat) (x2 : Int32) (x3 : Nat) (x4 : Int32) (x5 : Int32) (x6 : Nat) (x7 : Int32), kX10_greatestBelow_66 σ k23 n x0 x1 x2 x3 x4 x5 x6 x7 = some Z → GoC l G RX10 "greatestBelow" cX10_greatestBelow 9 (some .int) 4 85 n0 u0 (some (.int Z)) σ 66 [(0, G.rv x0), (1, G.rv x1), (2, .int x2), (3, G.rv x3), (4, .int x4), (5, .int x5), (6, G.rv x6), (7, .int x7)] [] σ := by
  induction n with
  | zero => intro x0 x1 x2 x3 x4 x5 x6 x7 h; rw [kX10_greatestBelow_66] at h; cases h
  | succ n ih =>
    intro x0 x1 x2 x3 x4 x5 x6 x7 h
    rw [kX10_greatestBelow_66] at h
    refine GoC.iload 7 dX10_greatestBelow_66 rfl ?_
    refine GC.aload 6 dX10_greatestBelow_68 rfl ?_
    refine GC.geti 3 2 rfl (by decide) (by decide) fw_X10_53 (Or.inl rfl) dX10_greatestBelow_70 h (fun v1 h => ?_)
    refine GoC.icmp_ge 129 dX10_greatestBelow_73 (by decide) h (fun h => ?_) (fun h => ?_)
    · refine GoC.sub [0, 1, 2, 3, 4, 5] rfl ?_
      exact ksX10_greatestBelow_129 _ h23 _ _ _ _ _ _ h
    · refine GC.aload 6 dX10_greatestBelow_76 rfl ?_
      refine GC.geti 3 0 rfl (by decide) (by decide) fw_X10_45 (Or.inl rfl) dX10_greatestBelow_78 h (fun v2 h => ?_)
      refine GoC.if_eq 129 dX10_greatestBelow_81 (by decide) h (fun h => ?_) (fun h => ?_)
      · refine GoC.sub [0, 1, 2, 3, 4, 5] rfl ?_
        exact ksX10_greatestBelow_129 _ h23 _ _ _ _ _ _ h
      · refine GC.aload_n 0 dX10_greatestBelow_84 rfl ?_
        refine GC.getr 10 1 rfl (by decide) (by decide) fw_X10_22 (Or.inl rfl) dX10_greatestBelow_85 h (fun v3 h => ?_)
        refine GC.aload_n 1 dX10_greatestBelow_88 rfl ?_
        refine GC.getr 3 3 rfl (by decide) (by decide) fw_X10_77 (Or.inl rfl) dX10_greatestBelow_89 h (fun v4 h => ?_)
        refine GoC.iload_n 2 dX10_greatestBelow_92 rfl ?_
        refine GC.iald dX10_greatestBelow_93 h (fun v5 h => ?_)
        refine GC.aload 6 dX10_greatestBelow_94 rfl ?_
        refine GC.getr 3 3 rfl (by decide) (by decide) fw_X10_77 (Or.inl rfl) dX10_greatestBelow_96 h (fun v6 h => ?_)
        refine GoC.iload 7 dX10_greatestBelow_99 rfl ?_
        refine GC.iald dX10_greatestBelow_101 h (fun v7 h => ?_)
        obtain ⟨h0, h⟩ := ckd_some h
        obtain ⟨v8, hq, h⟩ := Option.bind_eq_some_iff.mp h
        refine GC.callvI (rest := []) 1 rfl h0 rfl [.int v5, .int v7] dX10_greatestBelow_102 kk_X10_80 km_X1_of.1 km_X1_of.2 (ktX1_of _ _ _ _ hq) rfl rfl (Nat.le_of_ble_eq_true rfl) (Nat.le_of_ble_eq_true rfl) trivial (Nat.le_of_ble_eq_true rfl) ?_
        refine GoC.istore [(0, G.rv x0), (1, G.rv x1), (2, .int x2), (3, G.rv x3), (4, .int x4), (5, .int x5), (6, G.rv x6), (7, .int x7), (8, .int v8)] dX10_greatestBelow_105 (by decide) rfl ?_
        refine GoC.iload 8 dX10_greatestBelow_107 rfl ?_
        refine GoC.iload 4 dX10_greatestBelow_109 rfl ?_
        refine GoC.icmp_le 119 dX10_greatestBelow_111 (by decide) h (fun h => ?_) (fun h => ?_)
        · refine GoC.iload 4 dX10_greatestBelow_119 rfl ?_
          refine GoC.sub [0, 1, 2, 3, 5, 6, 7] rfl ?_
          exact ksX10_greatestBelow_121 _ h23 _ ih _ _ _ _ _ _ _ _ h
        · refine GoC.iload 8 dX10_greatestBelow_114 rfl ?_
          refine GoC.goto 121 dX10_greatestBelow_116 (by decide) ?_
          refine GoC.sub [0, 1, 2, 3, 5, 6, 7] rfl ?_
          exact ksX10_greatestBelow_121 _ h23 _ ih _ _ _ _ _ _ _ _ h
set_option maxRecDepth 20000 in
theorem ksX10_greatestBelow_23 {l : Launch} {G : Gt} {n0 u0 : Nat} {σ : Hp} {Z : Int32} (n : Nat) : ∀ (x0 : Nat) (x1 : Nat) (x2 : Int32) (x3 : Nat) (x4 : Int32) (x5 : Int32), kX10_greatestBelow_23 σ n x0 x1 x2 x3 x4 x5 = some Z → GoC l G RX10 "greatestBelow" cX10_greatestBelow 9 (some .int) 4 85 n0 u0 (some (.int Z)) σ 23 [(0, G.rv x0), (1, G.rv x1), (2, .int x2), (3, G.rv x3), (4, .int x4), (5, .int x5)] [] σ := by
  induction n with
  | zero => intro x0 x1 x2 x3 x4 x5 h; rw [kX10_greatestBelow_23] at h; cases h
  | succ n ih =>
    intro x0 x1 x2 x3 x4 x5 h
    rw [kX10_greatestBelow_23] at h
    refine GoC.iload 5 dX10_greatestBelow_23 rfl ?_
    refine GC.aload_n 3 dX10_greatestBelow_25 rfl ?_
    refine GC.geti 3 6 rfl (by decide) (by decide) fw_X10_71 (Or.inl rfl) dX10_greatestBelow_26 h (fun v9 h => ?_)
    refine GC.aload_n 3 dX10_greatestBelow_29 rfl ?_
    refine GC.geti 3 7 rfl (by decide) (by decide) fw_X10_74 (Or.inl rfl) dX10_greatestBelow_30 h (fun v10 h => ?_)
    refine GoC.iadd dX10_greatestBelow_33 ?_
    refine GoC.icmp_ge 135 dX10_greatestBelow_34 (by decide) h (fun h => ?_) (fun h => ?_)
    · refine GoC.iload 4 dX10_greatestBelow_135 rfl ?_
      cases h
      exact GoC.iret dX10_greatestBelow_137 rfl
    · refine GoC.iload 5 dX10_greatestBelow_37 rfl ?_
      refine GC.aload_n 0 dX10_greatestBelow_39 rfl ?_
      refine GC.getr 10 2 rfl (by decide) (by decide) fw_X10_12 (Or.inl rfl) dX10_greatestBelow_40 h (fun v11 h => ?_)
      obtain ⟨h0, h⟩ := ckd_some h
      obtain ⟨v12, hq, h⟩ := Option.bind_eq_some_iff.mp h
      refine GC.callvI (rest := [.int x5]) 12 rfl h0 rfl [] dX10_greatestBelow_43 kk_X10_35 km_Jx4a65c_size_8abf5.1 km_Jx4a65c_size_8abf5.2 (ktJx4a65c_size_8abf5 _ _ hq) rfl rfl (Nat.le_of_ble_eq_true rfl) (Nat.le_of_ble_eq_true rfl) ⟨rfl, trivial⟩ (Nat.le_of_ble_eq_true rfl) ?_
      refine GoC.icmp_ge 135 dX10_greatestBelow_46 (by decide) h (fun h => ?_) (fun h => ?_)
      · refine GoC.iload 4 dX10_greatestBelow_135 rfl ?_
        cases h
        exact GoC.iret dX10_greatestBelow_137 rfl
      · refine GC.aload_n 0 dX10_greatestBelow_49 rfl ?_
        refine GC.getr 10 2 rfl (by decide) (by decide) fw_X10_12 (Or.inl rfl) dX10_greatestBelow_50 h (fun v13 h => ?_)
        refine GoC.iload 5 dX10_greatestBelow_53 rfl ?_
        obtain ⟨h0, h⟩ := ckd_some h
        obtain ⟨v14, hq, h⟩ := Option.bind_eq_some_iff.mp h
        refine GC.callvR (rest := []) 12 rfl h0 rfl [.int x5] dX10_greatestBelow_55 kk_X10_39 km_Jx4a65c_get_915e3.1 km_Jx4a65c_get_915e3.2 (ktJx4a65c_get_915e3 _ _ _ hq) rfl rfl (Nat.le_of_ble_eq_true rfl) (Nat.le_of_ble_eq_true rfl) trivial (Nat.le_of_ble_eq_true rfl) ?_
        refine GC.castS (c := 3) rfl cl_X10_43 dX10_greatestBelow_58 h (fun h => ?_)
        refine GC.astore [(0, G.rv x0), (1, G.rv x1), (2, .int x2), (3, G.rv x3), (4, .int x4), (5, .int x5), (6, G.rv v14)] dX10_greatestBelow_61 (by decide) rfl ?_
        refine GoC.iconst 0 dX10_greatestBelow_63 (by decide) ?_
        refine GoC.istore [(0, G.rv x0), (1, G.rv x1), (2, .int x2), (3, G.rv x3), (4, .int x4), (5, .int x5), (6, G.rv v14), (7, .int 0)] dX10_greatestBelow_64 (by decide) rfl ?_
        exact ksX10_greatestBelow_66 _ ih _ _ _ _ _ _ _ _ _ h
set_option maxRecDepth 20000 in
theorem ksX10_greatestBelow {l : Launch} {G : Gt} {n0 u0 : Nat} {σ : Hp} {Z : Int32} (x0 : Nat) (x1 : Nat) (x2 : Int32) (h : kX10_greatestBelow σ x0 x1 x2 = some Z) : GoC l G RX10 "greatestBelow" cX10_greatestBelow 9 (some .int) 4 85 n0 u0 (some (.int Z)) σ 0 [(0, G.rv x0), (1, G.rv x1), (2, .int x2)] [] σ := by
  unfold kX10_greatestBelow at h
  refine GC.aload_n 0 dX10_greatestBelow_0 rfl ?_
  refine GC.getr 10 0 rfl (by decide) (by decide) fw_X10_18 (Or.inl rfl) dX10_greatestBelow_1 h (fun v15 h => ?_)
  refine GC.aload_n 1 dX10_greatestBelow_4 rfl ?_
  refine GC.getr 3 5 rfl (by decide) (by decide) fw_X10_64 (Or.inl rfl) dX10_greatestBelow_5 h (fun v16 h => ?_)
  refine GoC.iload_n 2 dX10_greatestBelow_8 rfl ?_
  refine GC.iald dX10_greatestBelow_9 h (fun v17 h => ?_)
  obtain ⟨h0, h⟩ := ckd_some h
  obtain ⟨v18, hq, h⟩ := Option.bind_eq_some_iff.mp h
  refine GC.callvR (rest := []) 7 rfl h0 rfl [.int v17] dX10_greatestBelow_10 kk_X10_67 km_X7_at.1 km_X7_at.2 (ktX7_at _ _ _ hq) rfl rfl (Nat.le_of_ble_eq_true rfl) (Nat.le_of_ble_eq_true rfl) trivial (Nat.le_of_ble_eq_true rfl) ?_
  refine GC.astore_n [(0, G.rv x0), (1, G.rv x1), (2, .int x2), (3, G.rv v18)] dX10_greatestBelow_13 (by decide) rfl ?_
  refine GoC.iconst 0 dX10_greatestBelow_14 (by decide) ?_
  refine GoC.istore [(0, G.rv x0), (1, G.rv x1), (2, .int x2), (3, G.rv v18), (4, .int 0)] dX10_greatestBelow_15 (by decide) rfl ?_
  refine GC.aload_n 3 dX10_greatestBelow_17 rfl ?_
  refine GC.geti 3 6 rfl (by decide) (by decide) fw_X10_71 (Or.inl rfl) dX10_greatestBelow_18 h (fun v19 h => ?_)
  refine GoC.istore [(0, G.rv x0), (1, G.rv x1), (2, .int x2), (3, G.rv v18), (4, .int 0), (5, .int v19)] dX10_greatestBelow_21 (by decide) rfl ?_
  exact ksX10_greatestBelow_23 _ _ _ _ _ _ _ h
set_option maxRecDepth 20000 in
theorem ktX10_greatestBelow {l : Launch} {G : Gt} {σ : Hp} (x0 : Nat) (x1 : Nat) (x2 : Int32) : ∀ Z, kX10_greatestBelow σ x0 x1 x2 = some Z → MtC l G yX10_greatestBelow cX10_greatestBelow 9 (some .int) 4 85 [G.rv x0, G.rv x1, .int x2] σ (some (.int Z)) σ := fun Z h => MtC.at (by decide +kernel) ⟨G.rv_cat _, G.rv_cat _, rfl, trivial⟩ (Nat.le_of_ble_eq_true rfl) (ksX10_greatestBelow x0 x1 x2 h)
/-! X10_reachesCover -/
def kX10_reachesCover_63 (k6 : Nat → Int32 → Hp → Option (Int32 × Hp)) (k31 : Nat → Int32 → Nat → Int32 → Hp → Option (Int32 × Hp)) (x0 : Nat) (x1 : Int32) (x2 : Nat) (x3 : Int32) (σ : Hp) : Option (Int32 × Hp) := k31 x0 x1 x2 (x3 + 1) σ
def kX10_reachesCover_31 (k6 : Nat → Int32 → Hp → Option (Int32 × Hp)) : Nat → Nat → Int32 → Nat → Int32 → Hp → Option (Int32 × Hp)
  | 0, _, _, _, _, _ => none
  | n + 1, x0, x1, x2, x3, σ => (gfi σ 13 302 x2).bind (fun v1 => if v1 ≤ x3 then k6 x0 (x1 + 1) σ else (gfi σ 13 300 x2).bind (fun v2 => if v2 = 0 then (gfr σ 13 304 x2).bind (fun v3 => (ald σ 1 v3 x3).bind (fun v4 => ckd σ x0 20 ((kX10_greatestBelow σ x0 x2 x3).bind (fun v5 => if v5 ≤ v4 then kX10_reachesCover_63 k6 (kX10_reachesCover_31 k6 n) x0 x1 x2 x3 σ else (zb 0).bind (fun w => some (w, σ)))))) else kX10_reachesCover_63 k6 (kX10_reachesCover_31 k6 n) x0 x1 x2 x3 σ))
def kX10_reachesCover_6  : Nat → Nat → Int32 → Hp → Option (Int32 × Hp)
  | 0, _, _, _ => none
  | n + 1, x0, x1, σ => (gfr σ 20 1002 x0).bind (fun v6 => ckd σ v6 22 ((kJx4a65c_size_8abf5 σ v6).bind (fun v7 => if v7 ≤ x1 then (zb 1).bind (fun w => some (w, σ)) else (gfr σ 20 1002 x0).bind (fun v8 => ckd σ v8 22 ((kJx4a65c_get_915e3 σ v8 x1).bind (fun v9 => ckc σ v9 13 (kX10_reachesCover_31 (kX10_reachesCover_6 n) FU x0 x1 v9 0 σ)))))))
def kX10_reachesCover (σ : Hp) (x0 : Nat) : Option (Int32 × Hp) := ckd σ x0 20 ((kX10_renew σ x0).bind (fun σ10 => kX10_reachesCover_6 FU x0 0 σ10))
set_option maxRecDepth 20000 in
theorem ksX10_reachesCover_63 {l : Launch} {G : Gt} {n0 u0 : Nat} {Z : Int32 × Hp} (k6 : Nat → Int32 → Hp → Option (Int32 × Hp)) (h6 : ∀ (x0 : Nat) (x1 : Int32) (σ : Hp), k6 x0 x1 σ = some Z → GoC l G RX10 "reachesCover" cX10_reachesCover 4 (some .boolean) 8 205 n0 u0 (some (.int Z.1)) Z.2 6 [(0, G.rv x0), (1, .int x1)] [] σ) (k31 : Nat → Int32 → Nat → Int32 → Hp → Option (Int32 × Hp)) (h31 : ∀ (x0 : Nat) (x1 : Int32) (x2 : Nat) (x3 : Int32) (σ : Hp), k31 x0 x1 x2 x3 σ = some Z → GoC l G RX10 "reachesCover" cX10_reachesCover 4 (some .boolean) 8 205 n0 u0 (some (.int Z.1)) Z.2 31 [(0, G.rv x0), (1, .int x1), (2, G.rv x2), (3, .int x3)] [] σ) (x0 : Nat) (x1 : Int32) (x2 : Nat) (x3 : Int32) (σ : Hp) (h : kX10_reachesCover_63 k6 k31 x0 x1 x2 x3 σ = some Z) : GoC l G RX10 "reachesCover" cX10_reachesCover 4 (some .boolean) 8 205 n0 u0 (some (.int Z.1)) Z.2 63 [(0, G.rv x0), (1, .int x1), (2, G.rv x2), (3, .int x3)] [] σ := by
  unfold kX10_reachesCover_63 at h
  refine GoC.iinc (w := 1) 3 [(0, G.rv x0), (1, .int x1), (2, G.rv x2), (3, .int (x3 + 1))] dX10_reachesCover_63 rfl (by decide) (by decide) rfl ?_
  refine GoC.goto 31 dX10_reachesCover_66 (by decide) ?_
  exact h31 _ _ _ _ _ h
set_option maxRecDepth 20000 in
theorem ksX10_reachesCover_31 {l : Launch} {G : Gt} {n0 u0 : Nat} {Z : Int32 × Hp} (k6 : Nat → Int32 → Hp → Option (Int32 × Hp)) (h6 : ∀ (x0 : Nat) (x1 : Int32) (σ : Hp), k6 x0 x1 σ = some Z → GoC l G RX10 "reachesCover" cX10_reachesCover 4 (some .boolean) 8 205 n0 u0 (some (.int Z.1)) Z.2 6 [(0, G.rv x0), (1, .int x1)] [] σ) (n : Nat) : ∀ (x0 : Nat) (x1 : Int32) (x2 : Nat) (x3 : Int32) (σ : Hp), kX10_reachesCover_31 k6 n x0 x1 x2 x3 σ = some Z → GoC l G RX10 "reachesCover" cX10_reachesCover 4 (some .boolean) 8 205 n0 u0 (some (.int Z.1)) Z.2 31 [(0, G.rv x0), (1, .int x1), (2, G.rv x2), (3, .int x3)] [] σ := by
  induction n with
  | zero => intro x0 x1 x2 x3 σ h; rw [kX10_reachesCover_31] at h; cases h
  | succ n ih =>
    intro x0 x1 x2 x3 σ h
    rw [kX10_reachesCover_31] at h
    refine GoC.iload_n 3 dX10_reachesCover_31 rfl ?_
    refine GC.aload_n 2 dX10_reachesCover_32 rfl ?_
    refine GC.geti 3 2 rfl (by decide) (by decide) fw_X10_53 (Or.inl rfl) dX10_reachesCover_33 h (fun v1 h => ?_)
    refine GoC.icmp_ge 69 dX10_reachesCover_36 (by decide) h (fun h => ?_) (fun h => ?_)
    · refine GoC.iinc (w := 1) 1 [(0, G.rv x0), (1, .int (x1 + 1)), (2, G.rv x2), (3, .int x3)] dX10_reachesCover_69 rfl (by decide) (by decide) rfl ?_
      refine GoC.goto 6 dX10_reachesCover_72 (by decide) ?_
      refine GoC.sub [0, 1] rfl ?_
      exact h6 _ _ _ h
    · refine GC.aload_n 2 dX10_reachesCover_39 rfl ?_
      refine GC.geti 3 0 rfl (by decide) (by decide) fw_X10_45 (Or.inl rfl) dX10_reachesCover_40 h (fun v2 h => ?_)
      refine GoC.if_ne 63 dX10_reachesCover_43 (by decide) h (fun h => ?_) (fun h => ?_)
      · exact ksX10_reachesCover_63 _ h6 _ ih _ _ _ _ _ h
      · refine GC.aload_n 2 dX10_reachesCover_46 rfl ?_
        refine GC.getr 3 4 rfl (by decide) (by decide) fw_X10_56 (Or.inl rfl) dX10_reachesCover_47 h (fun v3 h => ?_)
        refine GoC.iload_n 3 dX10_reachesCover_50 rfl ?_
        refine GC.iald dX10_reachesCover_51 h (fun v4 h => ?_)
        refine GC.aload_n 0 dX10_reachesCover_52 rfl ?_
        refine GC.aload_n 2 dX10_reachesCover_53 rfl ?_
        refine GoC.iload_n 3 dX10_reachesCover_54 rfl ?_
        obtain ⟨h0, h⟩ := ckd_some h
        obtain ⟨v5, hq, h⟩ := Option.bind_eq_some_iff.mp h
        refine GC.callvI (rest := [.int v4]) 10 rfl h0 rfl [G.rv x2, .int x3] dX10_reachesCover_55 kk_X10_60 km_X10_greatestBelow.1 km_X10_greatestBelow.2 (ktX10_greatestBelow _ _ _ _ hq) rfl rfl (Nat.le_of_ble_eq_true rfl) (Nat.le_of_ble_eq_true rfl) ⟨rfl, trivial⟩ (Nat.le_of_ble_eq_true rfl) ?_
        refine GoC.icmp_ge 63 dX10_reachesCover_58 (by decide) h (fun h => ?_) (fun h => ?_)
        · exact ksX10_reachesCover_63 _ h6 _ ih _ _ _ _ _ h
        · refine GoC.iconst 0 dX10_reachesCover_61 (by decide) ?_
          obtain ⟨w, hw, h⟩ := Option.bind_eq_some_iff.mp h
          cases h
          exact GoC.zret dX10_reachesCover_62 rfl hw
set_option maxRecDepth 20000 in
theorem ksX10_reachesCover_6 {l : Launch} {G : Gt} {n0 u0 : Nat} {Z : Int32 × Hp} (n : Nat) : ∀ (x0 : Nat) (x1 : Int32) (σ : Hp), kX10_reachesCover_6 n x0 x1 σ = some Z → GoC l G RX10 "reachesCover" cX10_reachesCover 4 (some .boolean) 8 205 n0 u0 (some (.int Z.1)) Z.2 6 [(0, G.rv x0), (1, .int x1)] [] σ := by
  induction n with
  | zero => intro x0 x1 σ h; rw [kX10_reachesCover_6] at h; cases h
  | succ n ih =>
    intro x0 x1 σ h
    rw [kX10_reachesCover_6] at h
    refine GoC.iload_n 1 dX10_reachesCover_6 rfl ?_
    refine GC.aload_n 0 dX10_reachesCover_7 rfl ?_
    refine GC.getr 10 2 rfl (by decide) (by decide) fw_X10_12 (Or.inl rfl) dX10_reachesCover_8 h (fun v6 h => ?_)
    obtain ⟨h0, h⟩ := ckd_some h
    obtain ⟨v7, hq, h⟩ := Option.bind_eq_some_iff.mp h
    refine GC.callvI (rest := [.int x1]) 12 rfl h0 rfl [] dX10_reachesCover_11 kk_X10_35 km_Jx4a65c_size_8abf5.1 km_Jx4a65c_size_8abf5.2 (ktJx4a65c_size_8abf5 _ _ hq) rfl rfl (Nat.le_of_ble_eq_true rfl) (Nat.le_of_ble_eq_true rfl) ⟨rfl, trivial⟩ (Nat.le_of_ble_eq_true rfl) ?_
    refine GoC.icmp_ge 75 dX10_reachesCover_14 (by decide) h (fun h => ?_) (fun h => ?_)
    · refine GoC.iconst 1 dX10_reachesCover_75 (by decide) ?_
      obtain ⟨w, hw, h⟩ := Option.bind_eq_some_iff.mp h
      cases h
      exact GoC.zret dX10_reachesCover_76 rfl hw
    · refine GC.aload_n 0 dX10_reachesCover_17 rfl ?_
      refine GC.getr 10 2 rfl (by decide) (by decide) fw_X10_12 (Or.inl rfl) dX10_reachesCover_18 h (fun v8 h => ?_)
      refine GoC.iload_n 1 dX10_reachesCover_21 rfl ?_
      obtain ⟨h0, h⟩ := ckd_some h
      obtain ⟨v9, hq, h⟩ := Option.bind_eq_some_iff.mp h
      refine GC.callvR (rest := []) 12 rfl h0 rfl [.int x1] dX10_reachesCover_22 kk_X10_39 km_Jx4a65c_get_915e3.1 km_Jx4a65c_get_915e3.2 (ktJx4a65c_get_915e3 _ _ _ hq) rfl rfl (Nat.le_of_ble_eq_true rfl) (Nat.le_of_ble_eq_true rfl) trivial (Nat.le_of_ble_eq_true rfl) ?_
      refine GC.castS (c := 3) rfl cl_X10_43 dX10_reachesCover_25 h (fun h => ?_)
      refine GC.astore_n [(0, G.rv x0), (1, .int x1), (2, G.rv v9)] dX10_reachesCover_28 (by decide) rfl ?_
      refine GoC.iconst 0 dX10_reachesCover_29 (by decide) ?_
      refine GoC.istore_n [(0, G.rv x0), (1, .int x1), (2, G.rv v9), (3, .int 0)] dX10_reachesCover_30 (by decide) rfl ?_
      exact ksX10_reachesCover_31 _ ih _ _ _ _ _ _ h
set_option maxRecDepth 20000 in
theorem ksX10_reachesCover {l : Launch} {G : Gt} {n0 u0 : Nat} {σ : Hp} {Z : Int32 × Hp} (x0 : Nat) (h : kX10_reachesCover σ x0 = some Z) : GoC l G RX10 "reachesCover" cX10_reachesCover 4 (some .boolean) 8 205 n0 u0 (some (.int Z.1)) Z.2 0 [(0, G.rv x0)] [] σ := by
  unfold kX10_reachesCover at h
  refine GC.aload_n 0 dX10_reachesCover_0 rfl ?_
  obtain ⟨h0, h⟩ := ckd_some h
  obtain ⟨σ10, hq, h⟩ := Option.bind_eq_some_iff.mp h
  refine GC.callvV (rest := []) 10 rfl h0 rfl [] dX10_reachesCover_1 kk_X10_32 km_X10_renew.1 km_X10_renew.2 (ktX10_renew _ _ hq) rfl rfl (Nat.le_of_ble_eq_true rfl) (Nat.le_of_ble_eq_true rfl) trivial (Nat.le_of_ble_eq_true rfl) ?_
  refine GoC.iconst 0 dX10_reachesCover_4 (by decide) ?_
  refine GoC.istore_n [(0, G.rv x0), (1, .int 0)] dX10_reachesCover_5 (by decide) rfl ?_
  exact ksX10_reachesCover_6 _ _ _ _ h
set_option maxRecDepth 20000 in
theorem ktX10_reachesCover {l : Launch} {G : Gt} {σ : Hp} (x0 : Nat) : ∀ Z, kX10_reachesCover σ x0 = some Z → MtC l G yX10_reachesCover cX10_reachesCover 4 (some .boolean) 8 205 [G.rv x0] σ (some (.int Z.1)) Z.2 := fun Z h => MtC.at (by decide +kernel) ⟨G.rv_cat _, trivial⟩ (Nat.le_of_ble_eq_true rfl) (ksX10_reachesCover x0 h)
/-! X10_tighten -/
def kX10_tighten_87 (k8 : Nat → Int32 → Int32 → Hp → Option (Int32 × Hp)) (x0 : Nat) (x1 : Int32) (x2 : Int32) (σ : Hp) : Option (Int32 × Hp) := k8 x0 x1 (x2 + 1) σ
def kX10_tighten_34 (k8 : Nat → Int32 → Int32 → Hp → Option (Int32 × Hp)) : Nat → Nat → Int32 → Int32 → Nat → Int32 → Hp → Option (Int32 × Hp)
  | 0, _, _, _, _, _, _ => none
  | n + 1, x0, x1, x2, x3, x4, σ => (gfi σ 13 302 x3).bind (fun v1 => if v1 ≤ x4 then kX10_tighten_87 k8 x0 x1 x2 σ else (gfi σ 13 300 x3).bind (fun v2 => if v2 = 0 then ckd σ x0 20 ((kX10_greatestBelow σ x0 x3 x4).bind (fun v3 => (gfr σ 13 304 x3).bind (fun v4 => (ald σ 1 v4 x4).bind (fun v5 => (gfr σ 13 304 x3).bind (fun v6 => (ast σ 1 v6 x4 v3).bind (fun σ7 => kX10_tighten_34 k8 n x0 (x1 + (v5 - v3)) x2 x3 (x4 + 1) σ7)))))) else kX10_tighten_87 k8 x0 x1 x2 σ))
def kX10_tighten_8  : Nat → Nat → Int32 → Int32 → Hp → Option (Int32 × Hp)
  | 0, _, _, _, _ => none
  | n + 1, x0, x1, x2, σ => (gfr σ 20 1002 x0).bind (fun v8 => ckd σ v8 22 ((kJx4a65c_size_8abf5 σ v8).bind (fun v9 => if v9 ≤ x2 then some (x1, σ) else (gfr σ 20 1002 x0).bind (fun v10 => ckd σ v10 22 ((kJx4a65c_get_915e3 σ v10 x2).bind (fun v11 => ckc σ v11 13 (kX10_tighten_34 (kX10_tighten_8 n) FU x0 x1 x2 v11 0 σ)))))))
def kX10_tighten (σ : Hp) (x0 : Nat) : Option (Int32 × Hp) := ckd σ x0 20 ((kX10_renew σ x0).bind (fun σ12 => kX10_tighten_8 FU x0 0 0 σ12))
set_option maxRecDepth 20000 in
theorem ksX10_tighten_87 {l : Launch} {G : Gt} {n0 u0 : Nat} {Z : Int32 × Hp} (k8 : Nat → Int32 → Int32 → Hp → Option (Int32 × Hp)) (h8 : ∀ (x0 : Nat) (x1 : Int32) (x2 : Int32) (σ : Hp), k8 x0 x1 x2 σ = some Z → GoC l G RX10 "tighten" cX10_tighten 6 (some .int) 8 205 n0 u0 (some (.int Z.1)) Z.2 8 [(0, G.rv x0), (1, .int x1), (2, .int x2)] [] σ) (x0 : Nat) (x1 : Int32) (x2 : Int32) (σ : Hp) (h : kX10_tighten_87 k8 x0 x1 x2 σ = some Z) : GoC l G RX10 "tighten" cX10_tighten 6 (some .int) 8 205 n0 u0 (some (.int Z.1)) Z.2 87 [(0, G.rv x0), (1, .int x1), (2, .int x2)] [] σ := by
  unfold kX10_tighten_87 at h
  refine GoC.iinc (w := 1) 2 [(0, G.rv x0), (1, .int x1), (2, .int (x2 + 1))] dX10_tighten_87 rfl (by decide) (by decide) rfl ?_
  refine GoC.goto 8 dX10_tighten_90 (by decide) ?_
  exact h8 _ _ _ _ h
set_option maxRecDepth 20000 in
theorem ksX10_tighten_34 {l : Launch} {G : Gt} {n0 u0 : Nat} {Z : Int32 × Hp} (k8 : Nat → Int32 → Int32 → Hp → Option (Int32 × Hp)) (h8 : ∀ (x0 : Nat) (x1 : Int32) (x2 : Int32) (σ : Hp), k8 x0 x1 x2 σ = some Z → GoC l G RX10 "tighten" cX10_tighten 6 (some .int) 8 205 n0 u0 (some (.int Z.1)) Z.2 8 [(0, G.rv x0), (1, .int x1), (2, .int x2)] [] σ) (n : Nat) : ∀ (x0 : Nat) (x1 : Int32) (x2 : Int32) (x3 : Nat) (x4 : Int32) (σ : Hp), kX10_tighten_34 k8 n x0 x1 x2 x3 x4 σ = some Z → GoC l G RX10 "tighten" cX10_tighten 6 (some .int) 8 205 n0 u0 (some (.int Z.1)) Z.2 34 [(0, G.rv x0), (1, .int x1), (2, .int x2), (3, G.rv x3), (4, .int x4)] [] σ := by
  induction n with
  | zero => intro x0 x1 x2 x3 x4 σ h; rw [kX10_tighten_34] at h; cases h
  | succ n ih =>
    intro x0 x1 x2 x3 x4 σ h
    rw [kX10_tighten_34] at h
    refine GoC.iload 4 dX10_tighten_34 rfl ?_
    refine GC.aload_n 3 dX10_tighten_36 rfl ?_
    refine GC.geti 3 2 rfl (by decide) (by decide) fw_X10_53 (Or.inl rfl) dX10_tighten_37 h (fun v1 h => ?_)
    refine GoC.icmp_ge 87 dX10_tighten_40 (by decide) h (fun h => ?_) (fun h => ?_)
    · refine GoC.sub [0, 1, 2] rfl ?_
      exact ksX10_tighten_87 _ h8 _ _ _ _ h
    · refine GC.aload_n 3 dX10_tighten_43 rfl ?_
      refine GC.geti 3 0 rfl (by decide) (by decide) fw_X10_45 (Or.inl rfl) dX10_tighten_44 h (fun v2 h => ?_)
      refine GoC.if_ne 87 dX10_tighten_47 (by decide) h (fun h => ?_) (fun h => ?_)
      · refine GoC.sub [0, 1, 2] rfl ?_
        exact ksX10_tighten_87 _ h8 _ _ _ _ h
      · refine GC.aload_n 0 dX10_tighten_50 rfl ?_
        refine GC.aload_n 3 dX10_tighten_51 rfl ?_
        refine GoC.iload 4 dX10_tighten_52 rfl ?_
        obtain ⟨h0, h⟩ := ckd_some h
        obtain ⟨v3, hq, h⟩ := Option.bind_eq_some_iff.mp h
        refine GC.callvI (rest := []) 10 rfl h0 rfl [G.rv x3, .int x4] dX10_tighten_54 kk_X10_60 km_X10_greatestBelow.1 km_X10_greatestBelow.2 (ktX10_greatestBelow _ _ _ _ hq) rfl rfl (Nat.le_of_ble_eq_true rfl) (Nat.le_of_ble_eq_true rfl) trivial (Nat.le_of_ble_eq_true rfl) ?_
        refine GoC.istore [(0, G.rv x0), (1, .int x1), (2, .int x2), (3, G.rv x3), (4, .int x4), (5, .int v3)] dX10_tighten_57 (by decide) rfl ?_
        refine GoC.iload_n 1 dX10_tighten_59 rfl ?_
        refine GC.aload_n 3 dX10_tighten_60 rfl ?_
        refine GC.getr 3 4 rfl (by decide) (by decide) fw_X10_56 (Or.inl rfl) dX10_tighten_61 h (fun v4 h => ?_)
        refine GoC.iload 4 dX10_tighten_64 rfl ?_
        refine GC.iald dX10_tighten_66 h (fun v5 h => ?_)
        refine GoC.iload 5 dX10_tighten_67 rfl ?_
        refine GoC.isub dX10_tighten_69 ?_
        refine GoC.iadd dX10_tighten_70 ?_
        refine GoC.istore_n [(0, G.rv x0), (1, .int (x1 + (v5 - v3))), (2, .int x2), (3, G.rv x3), (4, .int x4), (5, .int v3)] dX10_tighten_71 (by decide) rfl ?_
        refine GC.aload_n 3 dX10_tighten_72 rfl ?_
        refine GC.getr 3 4 rfl (by decide) (by decide) fw_X10_56 (Or.inl rfl) dX10_tighten_73 h (fun v6 h => ?_)
        refine GoC.iload 4 dX10_tighten_76 rfl ?_
        refine GoC.iload 5 dX10_tighten_78 rfl ?_
        refine GC.iast dX10_tighten_80 h (fun σ7 h => ?_)
        refine GoC.iinc (w := 1) 4 [(0, G.rv x0), (1, .int (x1 + (v5 - v3))), (2, .int x2), (3, G.rv x3), (4, .int (x4 + 1)), (5, .int v3)] dX10_tighten_81 rfl (by decide) (by decide) rfl ?_
        refine GoC.goto 34 dX10_tighten_84 (by decide) ?_
        refine GoC.sub [0, 1, 2, 3, 4] rfl ?_
        exact ih _ _ _ _ _ _ h
set_option maxRecDepth 20000 in
theorem ksX10_tighten_8 {l : Launch} {G : Gt} {n0 u0 : Nat} {Z : Int32 × Hp} (n : Nat) : ∀ (x0 : Nat) (x1 : Int32) (x2 : Int32) (σ : Hp), kX10_tighten_8 n x0 x1 x2 σ = some Z → GoC l G RX10 "tighten" cX10_tighten 6 (some .int) 8 205 n0 u0 (some (.int Z.1)) Z.2 8 [(0, G.rv x0), (1, .int x1), (2, .int x2)] [] σ := by
  induction n with
  | zero => intro x0 x1 x2 σ h; rw [kX10_tighten_8] at h; cases h
  | succ n ih =>
    intro x0 x1 x2 σ h
    rw [kX10_tighten_8] at h
    refine GoC.iload_n 2 dX10_tighten_8 rfl ?_
    refine GC.aload_n 0 dX10_tighten_9 rfl ?_
    refine GC.getr 10 2 rfl (by decide) (by decide) fw_X10_12 (Or.inl rfl) dX10_tighten_10 h (fun v8 h => ?_)
    obtain ⟨h0, h⟩ := ckd_some h
    obtain ⟨v9, hq, h⟩ := Option.bind_eq_some_iff.mp h
    refine GC.callvI (rest := [.int x2]) 12 rfl h0 rfl [] dX10_tighten_13 kk_X10_35 km_Jx4a65c_size_8abf5.1 km_Jx4a65c_size_8abf5.2 (ktJx4a65c_size_8abf5 _ _ hq) rfl rfl (Nat.le_of_ble_eq_true rfl) (Nat.le_of_ble_eq_true rfl) ⟨rfl, trivial⟩ (Nat.le_of_ble_eq_true rfl) ?_
    refine GoC.icmp_ge 93 dX10_tighten_16 (by decide) h (fun h => ?_) (fun h => ?_)
    · refine GoC.iload_n 1 dX10_tighten_93 rfl ?_
      cases h
      exact GoC.iret dX10_tighten_94 rfl
    · refine GC.aload_n 0 dX10_tighten_19 rfl ?_
      refine GC.getr 10 2 rfl (by decide) (by decide) fw_X10_12 (Or.inl rfl) dX10_tighten_20 h (fun v10 h => ?_)
      refine GoC.iload_n 2 dX10_tighten_23 rfl ?_
      obtain ⟨h0, h⟩ := ckd_some h
      obtain ⟨v11, hq, h⟩ := Option.bind_eq_some_iff.mp h
      refine GC.callvR (rest := []) 12 rfl h0 rfl [.int x2] dX10_tighten_24 kk_X10_39 km_Jx4a65c_get_915e3.1 km_Jx4a65c_get_915e3.2 (ktJx4a65c_get_915e3 _ _ _ hq) rfl rfl (Nat.le_of_ble_eq_true rfl) (Nat.le_of_ble_eq_true rfl) trivial (Nat.le_of_ble_eq_true rfl) ?_
      refine GC.castS (c := 3) rfl cl_X10_43 dX10_tighten_27 h (fun h => ?_)
      refine GC.astore_n [(0, G.rv x0), (1, .int x1), (2, .int x2), (3, G.rv v11)] dX10_tighten_30 (by decide) rfl ?_
      refine GoC.iconst 0 dX10_tighten_31 (by decide) ?_
      refine GoC.istore [(0, G.rv x0), (1, .int x1), (2, .int x2), (3, G.rv v11), (4, .int 0)] dX10_tighten_32 (by decide) rfl ?_
      exact ksX10_tighten_34 _ ih _ _ _ _ _ _ _ h
set_option maxRecDepth 20000 in
theorem ksX10_tighten {l : Launch} {G : Gt} {n0 u0 : Nat} {σ : Hp} {Z : Int32 × Hp} (x0 : Nat) (h : kX10_tighten σ x0 = some Z) : GoC l G RX10 "tighten" cX10_tighten 6 (some .int) 8 205 n0 u0 (some (.int Z.1)) Z.2 0 [(0, G.rv x0)] [] σ := by
  unfold kX10_tighten at h
  refine GC.aload_n 0 dX10_tighten_0 rfl ?_
  obtain ⟨h0, h⟩ := ckd_some h
  obtain ⟨σ12, hq, h⟩ := Option.bind_eq_some_iff.mp h
  refine GC.callvV (rest := []) 10 rfl h0 rfl [] dX10_tighten_1 kk_X10_32 km_X10_renew.1 km_X10_renew.2 (ktX10_renew _ _ hq) rfl rfl (Nat.le_of_ble_eq_true rfl) (Nat.le_of_ble_eq_true rfl) trivial (Nat.le_of_ble_eq_true rfl) ?_
  refine GoC.iconst 0 dX10_tighten_4 (by decide) ?_
  refine GoC.istore_n [(0, G.rv x0), (1, .int 0)] dX10_tighten_5 (by decide) rfl ?_
  refine GoC.iconst 0 dX10_tighten_6 (by decide) ?_
  refine GoC.istore_n [(0, G.rv x0), (1, .int 0), (2, .int 0)] dX10_tighten_7 (by decide) rfl ?_
  exact ksX10_tighten_8 _ _ _ _ _ h
set_option maxRecDepth 20000 in
theorem ktX10_tighten {l : Launch} {G : Gt} {σ : Hp} (x0 : Nat) : ∀ Z, kX10_tighten σ x0 = some Z → MtC l G yX10_tighten cX10_tighten 6 (some .int) 8 205 [G.rv x0] σ (some (.int Z.1)) Z.2 := fun Z h => MtC.at (by decide +kernel) ⟨G.rv_cat _, trivial⟩ (Nat.le_of_ble_eq_true rfl) (ksX10_tighten x0 h)
/-! X11_init -/
def kX11_init (σ : Hp) (x0 : Nat) : Option (Hp) := (nz x0).bind (fun _ => bd2 (nwO σ 7 13) (fun v1 σ2 => (nz v1).bind (fun _ => (kX7_init σ2 v1).bind (fun σ3 => (pfr σ3 21 1100 x0 v1).bind (fun σ4 => bd2 (nwO σ4 2 4) (fun v5 σ6 => (nz v5).bind (fun _ => (kX2_init σ6 v5).bind (fun σ7 => (pfr σ7 21 1101 x0 v5).bind (fun σ8 => bd2 (nwO σ8 1 6) (fun v9 σ10 => (gfr σ10 21 1101 x0).bind (fun v11 => (nz v9).bind (fun _ => (kX1_init σ10 v9 v11).bind (fun σ12 => (pfr σ12 21 1102 x0 v9).bind (fun σ13 => bd2 (nwO σ13 9 10) (fun v14 σ15 => (gfr σ15 21 1100 x0).bind (fun v16 => (gfr σ15 21 1102 x0).bind (fun v17 => (nz v14).bind (fun _ => (kX9_init σ15 v14 v16 v17).bind (fun σ18 => (pfr σ18 21 1103 x0 v14).bind (fun σ19 => bd2 (nwO σ19 10 3) (fun v20 σ21 => (gfr σ21 21 1100 x0).bind (fun v22 => (gfr σ21 21 1102 x0).bind (fun v23 => (nz v20).bind (fun _ => (kX10_init σ21 v20 v22 v23).bind (fun σ24 => (pfr σ24 21 1104 x0 v20).bind (fun σ25 => bd2 (nwO σ25 6 18) (fun v26 σ27 => (gfr σ27 21 1100 x0).bind (fun v28 => (gfr σ27 21 1102 x0).bind (fun v29 => (gfr σ27 21 1101 x0).bind (fun v30 => (nz v26).bind (fun _ => (kX6_init σ27 v26 v28 v29 v30).bind (fun σ31 => (pfr σ31 21 1105 x0 v26).bind (fun σ32 => bd2 (nwO σ32 8 9) (fun v33 σ34 => (gfr σ34 21 1100 x0).bind (fun v35 => (gfr σ34 21 1102 x0).bind (fun v36 => (nz v33).bind (fun _ => (kX8_init σ34 v33 v35 v36).bind (fun σ37 => (pfr σ37 21 1106 x0 v33).bind (fun σ38 => bd2 (nwO σ38 4 4) (fun v39 σ40 => (nz v39).bind (fun _ => (kX4_init σ40 v39).bind (fun σ41 => (pfr σ41 21 1107 x0 v39).bind (fun σ42 => bd2 (nwO σ42 0 10) (fun v43 σ44 => (nz v43).bind (fun _ => (kX0_init σ44 v43).bind (fun σ45 => (pfr σ45 21 1108 x0 v43).bind (fun σ46 => bd2 (nwO σ46 5 2) (fun v47 σ48 => (nz v47).bind (fun _ => (kX5_init σ48 v47).bind (fun σ49 => (pfr σ49 21 1109 x0 v47).bind (fun σ50 => some σ50)))))))))))))))))))))))))))))))))))))))))))))))))))
set_option maxRecDepth 20000 in
theorem ksX11_init {l : Launch} {G : Gt} {n0 u0 : Nat} {σ : Hp} {Z : Hp} (x0 : Nat) (h : kX11_init σ x0 = some Z) : GoC l G RX11 "<init>" cX11_init 1 none 9 219 n0 u0 none Z 0 [(0, G.rv x0)] [] σ := by
  unfold kX11_init at h
  refine GC.aload_n 0 dX11_init_0 rfl ?_
  obtain ⟨_, h0, h⟩ := Option.bind_eq_some_iff.mp h
  refine GC.oinit (nz_ne h0) oi_X11_3 oi_inst oi_code dX11_init_1 (Nat.le_of_ble_eq_true rfl) trivial (Nat.le_of_ble_eq_true rfl) ?_
  refine GC.aload_n 0 dX11_init_4 rfl ?_
  refine GC.new 7 rfl cl_X11_9 is_X7 ii_X7 dX11_init_5 h (fun v1 σ2 h => ?_)
  refine GoC.dup dX11_init_8 (G.rv_cat _) ?_
  obtain ⟨_, h0, h⟩ := Option.bind_eq_some_iff.mp h
  obtain ⟨σ3, hq, h⟩ := Option.bind_eq_some_iff.mp h
  refine GC.calliV (rest := [G.rv v1, G.rv x0]) (nz_ne h0) [] dX11_init_9 kk_X11_11 rfl km_X7_init (ktX7_init _ _ hq) rfl rfl (Nat.le_of_ble_eq_true rfl) (Nat.le_of_ble_eq_true rfl) ⟨G.rv_cat _, G.rv_cat _, trivial⟩ (Nat.le_of_ble_eq_true rfl) ?_
  refine GC.putr 11 0 rfl (by decide) (by decide) (Or.inl ⟨_, rfl⟩) fw_X11_12 (Or.inl rfl) (Or.inr ⟨rfl, rfl, rfl⟩) dX11_init_12 h (fun σ4 h => ?_)
  refine GC.aload_n 0 dX11_init_15 rfl ?_
  refine GC.new 2 rfl cl_X11_16 is_X2 ii_X2 dX11_init_16 h (fun v5 σ6 h => ?_)
  refine GoC.dup dX11_init_19 (G.rv_cat _) ?_
  obtain ⟨_, h0, h⟩ := Option.bind_eq_some_iff.mp h
  obtain ⟨σ7, hq, h⟩ := Option.bind_eq_some_iff.mp h
  refine GC.callnV (rest := [G.rv v5, G.rv x0]) (host := RX11) (nz_ne h0) [] dX11_init_20 (fun s q => q.2.2.2.2.2.1) kc_X2_init.1 kc_X2_init.2 (by decide +kernel) rfl km_X2_init (ktX2_init _ _ hq) rfl rfl (Nat.le_of_ble_eq_true rfl) (Nat.le_of_ble_eq_true rfl) ⟨G.rv_cat _, G.rv_cat _, trivial⟩ (Nat.le_of_ble_eq_true rfl) ?_
  refine GC.putr 11 1 rfl (by decide) (by decide) (Or.inl ⟨_, rfl⟩) fw_X11_19 (Or.inl rfl) (Or.inr ⟨rfl, rfl, rfl⟩) dX11_init_23 h (fun σ8 h => ?_)
  refine GC.aload_n 0 dX11_init_26 rfl ?_
  refine GC.new 1 rfl cl_X11_23 is_X1 ii_X1 dX11_init_27 h (fun v9 σ10 h => ?_)
  refine GoC.dup dX11_init_30 (G.rv_cat _) ?_
  refine GC.aload_n 0 dX11_init_31 rfl ?_
  refine GC.getr 11 1 rfl (by decide) (by decide) fw_X11_19 (Or.inl rfl) dX11_init_32 h (fun v11 h => ?_)
  obtain ⟨_, h0, h⟩ := Option.bind_eq_some_iff.mp h
  obtain ⟨σ12, hq, h⟩ := Option.bind_eq_some_iff.mp h
  refine GC.calliV (rest := [G.rv v9, G.rv x0]) (nz_ne h0) [G.rv v11] dX11_init_35 kk_X11_25 rfl km_X1_init (ktX1_init _ _ _ hq) rfl rfl (Nat.le_of_ble_eq_true rfl) (Nat.le_of_ble_eq_true rfl) ⟨G.rv_cat _, G.rv_cat _, trivial⟩ (Nat.le_of_ble_eq_true rfl) ?_
  refine GC.putr 11 2 rfl (by decide) (by decide) (Or.inl ⟨_, rfl⟩) fw_X11_28 (Or.inl rfl) (Or.inr ⟨rfl, rfl, rfl⟩) dX11_init_38 h (fun σ13 h => ?_)
  refine GC.aload_n 0 dX11_init_41 rfl ?_
  refine GC.new 9 rfl cl_X11_32 is_X9 ii_X9 dX11_init_42 h (fun v14 σ15 h => ?_)
  refine GoC.dup dX11_init_45 (G.rv_cat _) ?_
  refine GC.aload_n 0 dX11_init_46 rfl ?_
  refine GC.getr 11 0 rfl (by decide) (by decide) fw_X11_12 (Or.inl rfl) dX11_init_47 h (fun v16 h => ?_)
  refine GC.aload_n 0 dX11_init_50 rfl ?_
  refine GC.getr 11 2 rfl (by decide) (by decide) fw_X11_28 (Or.inl rfl) dX11_init_51 h (fun v17 h => ?_)
  obtain ⟨_, h0, h⟩ := Option.bind_eq_some_iff.mp h
  obtain ⟨σ18, hq, h⟩ := Option.bind_eq_some_iff.mp h
  refine GC.calliV (rest := [G.rv v14, G.rv x0]) (nz_ne h0) [G.rv v16, G.rv v17] dX11_init_54 kk_X11_34 rfl km_X9_init (ktX9_init _ _ _ _ hq) rfl rfl (Nat.le_of_ble_eq_true rfl) (Nat.le_of_ble_eq_true rfl) ⟨G.rv_cat _, G.rv_cat _, trivial⟩ (Nat.le_of_ble_eq_true rfl) ?_
  refine GC.putr 11 3 rfl (by decide) (by decide) (Or.inl ⟨_, rfl⟩) fw_X11_37 (Or.inl rfl) (Or.inr ⟨rfl, rfl, rfl⟩) dX11_init_57 h (fun σ19 h => ?_)
  refine GC.aload_n 0 dX11_init_60 rfl ?_
  refine GC.new 10 rfl cl_X11_41 is_X10 ii_X10 dX11_init_61 h (fun v20 σ21 h => ?_)
  refine GoC.dup dX11_init_64 (G.rv_cat _) ?_
  refine GC.aload_n 0 dX11_init_65 rfl ?_
  refine GC.getr 11 0 rfl (by decide) (by decide) fw_X11_12 (Or.inl rfl) dX11_init_66 h (fun v22 h => ?_)
  refine GC.aload_n 0 dX11_init_69 rfl ?_
  refine GC.getr 11 2 rfl (by decide) (by decide) fw_X11_28 (Or.inl rfl) dX11_init_70 h (fun v23 h => ?_)
  obtain ⟨_, h0, h⟩ := Option.bind_eq_some_iff.mp h
  obtain ⟨σ24, hq, h⟩ := Option.bind_eq_some_iff.mp h
  refine GC.calliV (rest := [G.rv v20, G.rv x0]) (nz_ne h0) [G.rv v22, G.rv v23] dX11_init_73 kk_X11_43 rfl km_X10_init (ktX10_init _ _ _ _ hq) rfl rfl (Nat.le_of_ble_eq_true rfl) (Nat.le_of_ble_eq_true rfl) ⟨G.rv_cat _, G.rv_cat _, trivial⟩ (Nat.le_of_ble_eq_true rfl) ?_
  refine GC.putr 11 4 rfl (by decide) (by decide) (Or.inl ⟨_, rfl⟩) fw_X11_44 (Or.inl rfl) (Or.inr ⟨rfl, rfl, rfl⟩) dX11_init_76 h (fun σ25 h => ?_)
  refine GC.aload_n 0 dX11_init_79 rfl ?_
  refine GC.new 6 rfl cl_X11_48 is_X6 ii_X6 dX11_init_80 h (fun v26 σ27 h => ?_)
  refine GoC.dup dX11_init_83 (G.rv_cat _) ?_
  refine GC.aload_n 0 dX11_init_84 rfl ?_
  refine GC.getr 11 0 rfl (by decide) (by decide) fw_X11_12 (Or.inl rfl) dX11_init_85 h (fun v28 h => ?_)
  refine GC.aload_n 0 dX11_init_88 rfl ?_
  refine GC.getr 11 2 rfl (by decide) (by decide) fw_X11_28 (Or.inl rfl) dX11_init_89 h (fun v29 h => ?_)
  refine GC.aload_n 0 dX11_init_92 rfl ?_
  refine GC.getr 11 1 rfl (by decide) (by decide) fw_X11_19 (Or.inl rfl) dX11_init_93 h (fun v30 h => ?_)
  obtain ⟨_, h0, h⟩ := Option.bind_eq_some_iff.mp h
  obtain ⟨σ31, hq, h⟩ := Option.bind_eq_some_iff.mp h
  refine GC.calliV (rest := [G.rv v26, G.rv x0]) (nz_ne h0) [G.rv v28, G.rv v29, G.rv v30] dX11_init_96 kk_X11_50 rfl km_X6_init (ktX6_init _ _ _ _ _ hq) rfl rfl (Nat.le_of_ble_eq_true rfl) (Nat.le_of_ble_eq_true rfl) ⟨G.rv_cat _, G.rv_cat _, trivial⟩ (Nat.le_of_ble_eq_true rfl) ?_
  refine GC.putr 11 5 rfl (by decide) (by decide) (Or.inl ⟨_, rfl⟩) fw_X11_53 (Or.inl rfl) (Or.inr ⟨rfl, rfl, rfl⟩) dX11_init_99 h (fun σ32 h => ?_)
  refine GC.aload_n 0 dX11_init_102 rfl ?_
  refine GC.new 8 rfl cl_X11_57 is_X8 ii_X8 dX11_init_103 h (fun v33 σ34 h => ?_)
  refine GoC.dup dX11_init_106 (G.rv_cat _) ?_
  refine GC.aload_n 0 dX11_init_107 rfl ?_
  refine GC.getr 11 0 rfl (by decide) (by decide) fw_X11_12 (Or.inl rfl) dX11_init_108 h (fun v35 h => ?_)
  refine GC.aload_n 0 dX11_init_111 rfl ?_
  refine GC.getr 11 2 rfl (by decide) (by decide) fw_X11_28 (Or.inl rfl) dX11_init_112 h (fun v36 h => ?_)
  obtain ⟨_, h0, h⟩ := Option.bind_eq_some_iff.mp h
  obtain ⟨σ37, hq, h⟩ := Option.bind_eq_some_iff.mp h
  refine GC.calliV (rest := [G.rv v33, G.rv x0]) (nz_ne h0) [G.rv v35, G.rv v36] dX11_init_115 kk_X11_59 rfl km_X8_init (ktX8_init _ _ _ _ hq) rfl rfl (Nat.le_of_ble_eq_true rfl) (Nat.le_of_ble_eq_true rfl) ⟨G.rv_cat _, G.rv_cat _, trivial⟩ (Nat.le_of_ble_eq_true rfl) ?_
  refine GC.putr 11 6 rfl (by decide) (by decide) (Or.inl ⟨_, rfl⟩) fw_X11_60 (Or.inl rfl) (Or.inr ⟨rfl, rfl, rfl⟩) dX11_init_118 h (fun σ38 h => ?_)
  refine GC.aload_n 0 dX11_init_121 rfl ?_
  refine GC.new 4 rfl cl_X11_64 is_X4 ii_X4 dX11_init_122 h (fun v39 σ40 h => ?_)
  refine GoC.dup dX11_init_125 (G.rv_cat _) ?_
  obtain ⟨_, h0, h⟩ := Option.bind_eq_some_iff.mp h
  obtain ⟨σ41, hq, h⟩ := Option.bind_eq_some_iff.mp h
  refine GC.callnV (rest := [G.rv v39, G.rv x0]) (host := RX11) (nz_ne h0) [] dX11_init_126 (fun s q => q.2.2.2.2.2.2.1) kc_X4_init.1 kc_X4_init.2 (by decide +kernel) rfl km_X4_init (ktX4_init _ _ hq) rfl rfl (Nat.le_of_ble_eq_true rfl) (Nat.le_of_ble_eq_true rfl) ⟨G.rv_cat _, G.rv_cat _, trivial⟩ (Nat.le_of_ble_eq_true rfl) ?_
  refine GC.putr 11 7 rfl (by decide) (by decide) (Or.inl ⟨_, rfl⟩) fw_X11_67 (Or.inl rfl) (Or.inr ⟨rfl, rfl, rfl⟩) dX11_init_129 h (fun σ42 h => ?_)
  refine GC.aload_n 0 dX11_init_132 rfl ?_
  refine GC.new 0 rfl cl_X11_71 is_X0 ii_X0 dX11_init_133 h (fun v43 σ44 h => ?_)
  refine GoC.dup dX11_init_136 (G.rv_cat _) ?_
  obtain ⟨_, h0, h⟩ := Option.bind_eq_some_iff.mp h
  obtain ⟨σ45, hq, h⟩ := Option.bind_eq_some_iff.mp h
  refine GC.callnV (rest := [G.rv v43, G.rv x0]) (host := RX11) (nz_ne h0) [] dX11_init_137 (fun s q => q.2.2.2.2.2.2.2.1) kc_X0_init.1 kc_X0_init.2 (by decide +kernel) rfl km_X0_init (ktX0_init _ _ hq) rfl rfl (Nat.le_of_ble_eq_true rfl) (Nat.le_of_ble_eq_true rfl) ⟨G.rv_cat _, G.rv_cat _, trivial⟩ (Nat.le_of_ble_eq_true rfl) ?_
  refine GC.putr 11 8 rfl (by decide) (by decide) (Or.inl ⟨_, rfl⟩) fw_X11_74 (Or.inl rfl) (Or.inr ⟨rfl, rfl, rfl⟩) dX11_init_140 h (fun σ46 h => ?_)
  refine GC.aload_n 0 dX11_init_143 rfl ?_
  refine GC.new 5 rfl cl_X11_78 is_X5 ii_X5 dX11_init_144 h (fun v47 σ48 h => ?_)
  refine GoC.dup dX11_init_147 (G.rv_cat _) ?_
  obtain ⟨_, h0, h⟩ := Option.bind_eq_some_iff.mp h
  obtain ⟨σ49, hq, h⟩ := Option.bind_eq_some_iff.mp h
  refine GC.callnV (rest := [G.rv v47, G.rv x0]) (host := RX11) (nz_ne h0) [] dX11_init_148 (fun s q => q.2.2.2.2.2.2.2.2) kc_X5_init.1 kc_X5_init.2 (by decide +kernel) rfl km_X5_init (ktX5_init _ _ hq) rfl rfl (Nat.le_of_ble_eq_true rfl) (Nat.le_of_ble_eq_true rfl) ⟨G.rv_cat _, G.rv_cat _, trivial⟩ (Nat.le_of_ble_eq_true rfl) ?_
  refine GC.putr 11 9 rfl (by decide) (by decide) (Or.inl ⟨_, rfl⟩) fw_X11_81 (Or.inl rfl) (Or.inr ⟨rfl, rfl, rfl⟩) dX11_init_151 h (fun σ50 h => ?_)
  cases h
  exact GoC.vret dX11_init_154 rfl
set_option maxRecDepth 20000 in
theorem ktX11_init {l : Launch} {G : Gt} {σ : Hp} (x0 : Nat) : ∀ Z, kX11_init σ x0 = some Z → MtC l G yX11_init cX11_init 1 none 9 219 [G.rv x0] σ none Z := fun Z h => MtC.at (by decide +kernel) ⟨G.rv_cat _, trivial⟩ (Nat.le_of_ble_eq_true rfl) (ksX11_init x0 h)
/-! X11_canAdd -/
def kX11_canAdd (σ : Hp) (x0 : Nat) (x1 : Int32) : Option (Int32) := (gfr σ 21 1101 x0).bind (fun v1 => ckd σ v1 12 ((kX2_lettersIn σ v1 x1).bind (fun v2 => if v2 = (-1) then zb 0 else (gfr σ 21 1100 x0).bind (fun v3 => (gfi σ 17 701 v3).bind (fun v4 => if 40 ≤ v4 then zb 0 else (gfr σ 21 1100 x0).bind (fun v5 => ckd σ v5 17 ((kX7_numberOf σ v5 x1).bind (fun v6 => if v6 = (-1) then zb 1 else zb 0))))))))
set_option maxRecDepth 20000 in
theorem ksX11_canAdd {l : Launch} {G : Gt} {n0 u0 : Nat} {σ : Hp} {Z : Int32} (x0 : Nat) (x1 : Int32) (h : kX11_canAdd σ x0 x1 = some Z) : GoC l G RX11 "canAdd" cX11_canAdd 2 (some .boolean) 1 24 n0 u0 (some (.int Z)) σ 0 [(0, G.rv x0), (1, .int x1)] [] σ := by
  unfold kX11_canAdd at h
  refine GC.aload_n 0 dX11_canAdd_0 rfl ?_
  refine GC.getr 11 1 rfl (by decide) (by decide) fw_X11_19 (Or.inl rfl) dX11_canAdd_1 h (fun v1 h => ?_)
  refine GoC.iload_n 1 dX11_canAdd_4 rfl ?_
  obtain ⟨h0, h⟩ := ckd_some h
  obtain ⟨v2, hq, h⟩ := Option.bind_eq_some_iff.mp h
  refine GC.callvI (rest := []) 2 rfl h0 rfl [.int x1] dX11_canAdd_5 kk_X11_139 km_X2_lettersIn.1 km_X2_lettersIn.2 (ktX2_lettersIn _ _ _ hq) rfl rfl (Nat.le_of_ble_eq_true rfl) (Nat.le_of_ble_eq_true rfl) trivial (Nat.le_of_ble_eq_true rfl) ?_
  refine GoC.iconst (-1) dX11_canAdd_8 (by decide) ?_
  refine GoC.icmp_eq 40 dX11_canAdd_9 (by decide) h (fun h => ?_) (fun h => ?_)
  · refine GoC.iconst 0 dX11_canAdd_40 (by decide) ?_
    exact GoC.zret dX11_canAdd_41 rfl h
  · refine GC.aload_n 0 dX11_canAdd_12 rfl ?_
    refine GC.getr 11 0 rfl (by decide) (by decide) fw_X11_12 (Or.inl rfl) dX11_canAdd_13 h (fun v3 h => ?_)
    refine GC.geti 7 1 rfl (by decide) (by decide) fw_X11_196 (Or.inl rfl) dX11_canAdd_16 h (fun v4 h => ?_)
    refine GoC.bipush 40 dX11_canAdd_19 (by decide) ?_
    refine GoC.icmp_ge 40 dX11_canAdd_21 (by decide) h (fun h => ?_) (fun h => ?_)
    · refine GoC.iconst 0 dX11_canAdd_40 (by decide) ?_
      exact GoC.zret dX11_canAdd_41 rfl h
    · refine GC.aload_n 0 dX11_canAdd_24 rfl ?_
      refine GC.getr 11 0 rfl (by decide) (by decide) fw_X11_12 (Or.inl rfl) dX11_canAdd_25 h (fun v5 h => ?_)
      refine GoC.iload_n 1 dX11_canAdd_28 rfl ?_
      obtain ⟨h0, h⟩ := ckd_some h
      obtain ⟨v6, hq, h⟩ := Option.bind_eq_some_iff.mp h
      refine GC.callvI (rest := []) 7 rfl h0 rfl [.int x1] dX11_canAdd_29 kk_X11_143 km_X7_numberOf.1 km_X7_numberOf.2 (ktX7_numberOf _ _ _ hq) rfl rfl (Nat.le_of_ble_eq_true rfl) (Nat.le_of_ble_eq_true rfl) trivial (Nat.le_of_ble_eq_true rfl) ?_
      refine GoC.iconst (-1) dX11_canAdd_32 (by decide) ?_
      refine GoC.icmp_ne 40 dX11_canAdd_33 (by decide) h (fun h => ?_) (fun h => ?_)
      · refine GoC.iconst 0 dX11_canAdd_40 (by decide) ?_
        exact GoC.zret dX11_canAdd_41 rfl h
      · refine GoC.iconst 1 dX11_canAdd_36 (by decide) ?_
        refine GoC.goto 41 dX11_canAdd_37 (by decide) ?_
        exact GoC.zret dX11_canAdd_41 rfl h
set_option maxRecDepth 20000 in
theorem ktX11_canAdd {l : Launch} {G : Gt} {σ : Hp} (x0 : Nat) (x1 : Int32) : ∀ Z, kX11_canAdd σ x0 x1 = some Z → MtC l G yX11_canAdd cX11_canAdd 2 (some .boolean) 1 24 [G.rv x0, .int x1] σ (some (.int Z)) σ := fun Z h => MtC.at (by decide +kernel) ⟨G.rv_cat _, rfl, trivial⟩ (Nat.le_of_ble_eq_true rfl) (ksX11_canAdd x0 x1 h)
/-! X11_bringIn -/
def kX11_bringIn (σ : Hp) (x0 : Nat) (x1 : Int32) (x2 : Int32) : Option (Int32 × Hp) := (gfr σ 21 1100 x0).bind (fun v1 => ckd σ v1 17 ((kX7_setWord σ v1 x1 x2).bind (fun σ2 => (gfr σ2 21 1102 x0).bind (fun v3 => (gfr σ2 21 1100 x0).bind (fun v4 => ckd σ2 v3 11 ((kX1_follow σ2 v3 v4).bind (fun σ5 => (gfr σ5 21 1103 x0).bind (fun v6 => ckd σ5 v6 19 ((kX9_insert σ5 v6 x1).bind (fun σ7 => some (x1, σ7)))))))))))
set_option maxRecDepth 20000 in
theorem ksX11_bringIn {l : Launch} {G : Gt} {n0 u0 : Nat} {σ : Hp} {Z : Int32 × Hp} (x0 : Nat) (x1 : Int32) (x2 : Int32) (h : kX11_bringIn σ x0 x1 x2 = some Z) : GoC l G RX11 "bringIn" cX11_bringIn 3 (some .int) 10 255 n0 u0 (some (.int Z.1)) Z.2 0 [(0, G.rv x0), (1, .int x1), (2, .int x2)] [] σ := by
  unfold kX11_bringIn at h
  refine GC.aload_n 0 dX11_bringIn_0 rfl ?_
  refine GC.getr 11 0 rfl (by decide) (by decide) fw_X11_12 (Or.inl rfl) dX11_bringIn_1 h (fun v1 h => ?_)
  refine GoC.iload_n 1 dX11_bringIn_4 rfl ?_
  refine GoC.iload_n 2 dX11_bringIn_5 rfl ?_
  obtain ⟨h0, h⟩ := ckd_some h
  obtain ⟨σ2, hq, h⟩ := Option.bind_eq_some_iff.mp h
  refine GC.callvV (rest := []) 7 rfl h0 rfl [.int x1, .int x2] dX11_bringIn_6 kk_X11_354 km_X7_setWord.1 km_X7_setWord.2 (ktX7_setWord _ _ _ _ hq) rfl rfl (Nat.le_of_ble_eq_true rfl) (Nat.le_of_ble_eq_true rfl) trivial (Nat.le_of_ble_eq_true rfl) ?_
  refine GC.aload_n 0 dX11_bringIn_9 rfl ?_
  refine GC.getr 11 2 rfl (by decide) (by decide) fw_X11_28 (Or.inl rfl) dX11_bringIn_10 h (fun v3 h => ?_)
  refine GC.aload_n 0 dX11_bringIn_13 rfl ?_
  refine GC.getr 11 0 rfl (by decide) (by decide) fw_X11_12 (Or.inl rfl) dX11_bringIn_14 h (fun v4 h => ?_)
  obtain ⟨h0, h⟩ := ckd_some h
  obtain ⟨σ5, hq, h⟩ := Option.bind_eq_some_iff.mp h
  refine GC.callvV (rest := []) 1 rfl h0 rfl [G.rv v4] dX11_bringIn_17 kk_X11_114 km_X1_follow.1 km_X1_follow.2 (ktX1_follow _ _ _ hq) rfl rfl (Nat.le_of_ble_eq_true rfl) (Nat.le_of_ble_eq_true rfl) trivial (Nat.le_of_ble_eq_true rfl) ?_
  refine GC.aload_n 0 dX11_bringIn_20 rfl ?_
  refine GC.getr 11 3 rfl (by decide) (by decide) fw_X11_37 (Or.inl rfl) dX11_bringIn_21 h (fun v6 h => ?_)
  refine GoC.iload_n 1 dX11_bringIn_24 rfl ?_
  obtain ⟨h0, h⟩ := ckd_some h
  obtain ⟨σ7, hq, h⟩ := Option.bind_eq_some_iff.mp h
  refine GC.callvV (rest := []) 9 rfl h0 rfl [.int x1] dX11_bringIn_25 kk_X11_358 km_X9_insert.1 km_X9_insert.2 (ktX9_insert _ _ _ hq) rfl rfl (Nat.le_of_ble_eq_true rfl) (Nat.le_of_ble_eq_true rfl) trivial (Nat.le_of_ble_eq_true rfl) ?_
  refine GoC.iload_n 1 dX11_bringIn_28 rfl ?_
  cases h
  exact GoC.iret dX11_bringIn_29 rfl
set_option maxRecDepth 20000 in
theorem ktX11_bringIn {l : Launch} {G : Gt} {σ : Hp} (x0 : Nat) (x1 : Int32) (x2 : Int32) : ∀ Z, kX11_bringIn σ x0 x1 x2 = some Z → MtC l G yX11_bringIn cX11_bringIn 3 (some .int) 10 255 [G.rv x0, .int x1, .int x2] σ (some (.int Z.1)) Z.2 := fun Z h => MtC.at (by decide +kernel) ⟨G.rv_cat _, rfl, rfl, trivial⟩ (Nat.le_of_ble_eq_true rfl) (ksX11_bringIn x0 x1 x2 h)
/-! X11_put -/
def kX11_put (σ : Hp) (x0 : Nat) (x1 : Int32) : Option (Int32 × Hp) := ckd σ x0 21 ((kX11_canAdd σ x0 x1).bind (fun v1 => if v1 = 0 then some ((-1), σ) else (gfr σ 21 1107 x0).bind (fun v2 => (gfr σ 21 1100 x0).bind (fun v3 => ckd σ v2 14 ((kX4_keep σ v2 v3).bind (fun σ4 => (gfr σ4 21 1100 x0).bind (fun v5 => ckd σ4 v5 17 ((kX7_freeNumber σ4 v5).bind (fun v6 => ckd σ4 x0 21 (bd2 (kX11_bringIn σ4 x0 v6 x1) (fun v7 σ8 => some (v7, σ8))))))))))))
set_option maxRecDepth 20000 in
theorem ksX11_put {l : Launch} {G : Gt} {n0 u0 : Nat} {σ : Hp} {Z : Int32 × Hp} (x0 : Nat) (x1 : Int32) (h : kX11_put σ x0 x1 = some Z) : GoC l G RX11 "put" cX11_put 2 (some .int) 11 277 n0 u0 (some (.int Z.1)) Z.2 0 [(0, G.rv x0), (1, .int x1)] [] σ := by
  unfold kX11_put at h
  refine GC.aload_n 0 dX11_put_0 rfl ?_
  refine GoC.iload_n 1 dX11_put_1 rfl ?_
  obtain ⟨h0, h⟩ := ckd_some h
  obtain ⟨v1, hq, h⟩ := Option.bind_eq_some_iff.mp h
  refine GC.callvI (rest := []) 11 rfl h0 rfl [.int x1] dX11_put_2 kk_X11_85 km_X11_canAdd.1 km_X11_canAdd.2 (ktX11_canAdd _ _ _ hq) rfl rfl (Nat.le_of_ble_eq_true rfl) (Nat.le_of_ble_eq_true rfl) trivial (Nat.le_of_ble_eq_true rfl) ?_
  refine GoC.if_ne 10 dX11_put_5 (by decide) h (fun h => ?_) (fun h => ?_)
  · refine GC.aload_n 0 dX11_put_10 rfl ?_
    refine GC.getr 11 7 rfl (by decide) (by decide) fw_X11_67 (Or.inl rfl) dX11_put_11 h (fun v2 h => ?_)
    refine GC.aload_n 0 dX11_put_14 rfl ?_
    refine GC.getr 11 0 rfl (by decide) (by decide) fw_X11_12 (Or.inl rfl) dX11_put_15 h (fun v3 h => ?_)
    obtain ⟨h0, h⟩ := ckd_some h
    obtain ⟨σ4, hq, h⟩ := Option.bind_eq_some_iff.mp h
    refine GC.callvV (rest := []) 4 rfl h0 rfl [G.rv v3] dX11_put_18 kk_X11_89 km_X4_keep.1 km_X4_keep.2 (ktX4_keep _ _ _ hq) rfl rfl (Nat.le_of_ble_eq_true rfl) (Nat.le_of_ble_eq_true rfl) trivial (Nat.le_of_ble_eq_true rfl) ?_
    refine GC.aload_n 0 dX11_put_21 rfl ?_
    refine GC.aload_n 0 dX11_put_22 rfl ?_
    refine GC.getr 11 0 rfl (by decide) (by decide) fw_X11_12 (Or.inl rfl) dX11_put_23 h (fun v5 h => ?_)
    obtain ⟨h0, h⟩ := ckd_some h
    obtain ⟨v6, hq, h⟩ := Option.bind_eq_some_iff.mp h
    refine GC.callvI (rest := [G.rv x0]) 7 rfl h0 rfl [] dX11_put_26 kk_X11_93 km_X7_freeNumber.1 km_X7_freeNumber.2 (ktX7_freeNumber _ _ hq) rfl rfl (Nat.le_of_ble_eq_true rfl) (Nat.le_of_ble_eq_true rfl) ⟨G.rv_cat _, trivial⟩ (Nat.le_of_ble_eq_true rfl) ?_
    refine GoC.iload_n 1 dX11_put_29 rfl ?_
    obtain ⟨h0, h⟩ := ckd_some h
    obtain ⟨v7, σ8, hq, h⟩ := bd2_some h
    refine GC.callvI (rest := []) 11 rfl h0 rfl [.int v6, .int x1] dX11_put_30 kk_X11_97 km_X11_bringIn.1 km_X11_bringIn.2 (ktX11_bringIn _ _ _ _ hq) rfl rfl (Nat.le_of_ble_eq_true rfl) (Nat.le_of_ble_eq_true rfl) trivial (Nat.le_of_ble_eq_true rfl) ?_
    cases h
    exact GoC.iret dX11_put_33 rfl
  · refine GoC.iconst (-1) dX11_put_8 (by decide) ?_
    cases h
    exact GoC.iret dX11_put_9 rfl
set_option maxRecDepth 20000 in
theorem ktX11_put {l : Launch} {G : Gt} {σ : Hp} (x0 : Nat) (x1 : Int32) : ∀ Z, kX11_put σ x0 x1 = some Z → MtC l G yX11_put cX11_put 2 (some .int) 11 277 [G.rv x0, .int x1] σ (some (.int Z.1)) Z.2 := fun Z h => MtC.at (by decide +kernel) ⟨G.rv_cat _, rfl, trivial⟩ (Nat.le_of_ble_eq_true rfl) (ksX11_put x0 x1 h)
/-! X11_takeOut -/
def kX11_takeOut (σ : Hp) (x0 : Nat) (x1 : Int32) : Option (Int32 × Hp) := (gfr σ 21 1100 x0).bind (fun v1 => ckd σ v1 17 ((kX7_forget σ v1 x1).bind (fun σ2 => (gfr σ2 21 1102 x0).bind (fun v3 => (gfr σ2 21 1100 x0).bind (fun v4 => ckd σ2 v3 11 ((kX1_follow σ2 v3 v4).bind (fun σ5 => (gfr σ5 21 1103 x0).bind (fun v6 => ckd σ5 v6 19 ((kX9_hasCentre σ5 v6 x1).bind (fun v7 => if v7 = 0 then (gfr σ5 21 1103 x0).bind (fun v8 => ckd σ5 v8 19 ((kX9_takeFromLeaf σ5 v8 x1).bind (fun σ9 => (zb 0).bind (fun w => some (w, σ9))))) else (zb 1).bind (fun w => some (w, σ5))))))))))))
set_option maxRecDepth 20000 in
theorem ksX11_takeOut {l : Launch} {G : Gt} {n0 u0 : Nat} {σ : Hp} {Z : Int32 × Hp} (x0 : Nat) (x1 : Int32) (h : kX11_takeOut σ x0 x1 = some Z) : GoC l G RX11 "takeOut" cX11_takeOut 2 (some .boolean) 5 109 n0 u0 (some (.int Z.1)) Z.2 0 [(0, G.rv x0), (1, .int x1)] [] σ := by
  unfold kX11_takeOut at h
  refine GC.aload_n 0 dX11_takeOut_0 rfl ?_
  refine GC.getr 11 0 rfl (by decide) (by decide) fw_X11_12 (Or.inl rfl) dX11_takeOut_1 h (fun v1 h => ?_)
  refine GoC.iload_n 1 dX11_takeOut_4 rfl ?_
  obtain ⟨h0, h⟩ := ckd_some h
  obtain ⟨σ2, hq, h⟩ := Option.bind_eq_some_iff.mp h
  refine GC.callvV (rest := []) 7 rfl h0 rfl [.int x1] dX11_takeOut_5 kk_X11_361 km_X7_forget.1 km_X7_forget.2 (ktX7_forget _ _ _ hq) rfl rfl (Nat.le_of_ble_eq_true rfl) (Nat.le_of_ble_eq_true rfl) trivial (Nat.le_of_ble_eq_true rfl) ?_
  refine GC.aload_n 0 dX11_takeOut_8 rfl ?_
  refine GC.getr 11 2 rfl (by decide) (by decide) fw_X11_28 (Or.inl rfl) dX11_takeOut_9 h (fun v3 h => ?_)
  refine GC.aload_n 0 dX11_takeOut_12 rfl ?_
  refine GC.getr 11 0 rfl (by decide) (by decide) fw_X11_12 (Or.inl rfl) dX11_takeOut_13 h (fun v4 h => ?_)
  obtain ⟨h0, h⟩ := ckd_some h
  obtain ⟨σ5, hq, h⟩ := Option.bind_eq_some_iff.mp h
  refine GC.callvV (rest := []) 1 rfl h0 rfl [G.rv v4] dX11_takeOut_16 kk_X11_114 km_X1_follow.1 km_X1_follow.2 (ktX1_follow _ _ _ hq) rfl rfl (Nat.le_of_ble_eq_true rfl) (Nat.le_of_ble_eq_true rfl) trivial (Nat.le_of_ble_eq_true rfl) ?_
  refine GC.aload_n 0 dX11_takeOut_19 rfl ?_
  refine GC.getr 11 3 rfl (by decide) (by decide) fw_X11_37 (Or.inl rfl) dX11_takeOut_20 h (fun v6 h => ?_)
  refine GoC.iload_n 1 dX11_takeOut_23 rfl ?_
  obtain ⟨h0, h⟩ := ckd_some h
  obtain ⟨v7, hq, h⟩ := Option.bind_eq_some_iff.mp h
  refine GC.callvI (rest := []) 9 rfl h0 rfl [.int x1] dX11_takeOut_24 kk_X11_364 km_X9_hasCentre.1 km_X9_hasCentre.2 (ktX9_hasCentre _ _ _ hq) rfl rfl (Nat.le_of_ble_eq_true rfl) (Nat.le_of_ble_eq_true rfl) trivial (Nat.le_of_ble_eq_true rfl) ?_
  refine GoC.if_eq 32 dX11_takeOut_27 (by decide) h (fun h => ?_) (fun h => ?_)
  · refine GC.aload_n 0 dX11_takeOut_32 rfl ?_
    refine GC.getr 11 3 rfl (by decide) (by decide) fw_X11_37 (Or.inl rfl) dX11_takeOut_33 h (fun v8 h => ?_)
    refine GoC.iload_n 1 dX11_takeOut_36 rfl ?_
    obtain ⟨h0, h⟩ := ckd_some h
    obtain ⟨σ9, hq, h⟩ := Option.bind_eq_some_iff.mp h
    refine GC.callvV (rest := []) 9 rfl h0 rfl [.int x1] dX11_takeOut_37 kk_X11_367 km_X9_takeFromLeaf.1 km_X9_takeFromLeaf.2 (ktX9_takeFromLeaf _ _ _ hq) rfl rfl (Nat.le_of_ble_eq_true rfl) (Nat.le_of_ble_eq_true rfl) trivial (Nat.le_of_ble_eq_true rfl) ?_
    refine GoC.iconst 0 dX11_takeOut_40 (by decide) ?_
    obtain ⟨w, hw, h⟩ := Option.bind_eq_some_iff.mp h
    cases h
    exact GoC.zret dX11_takeOut_41 rfl hw
  · refine GoC.iconst 1 dX11_takeOut_30 (by decide) ?_
    obtain ⟨w, hw, h⟩ := Option.bind_eq_some_iff.mp h
    cases h
    exact GoC.zret dX11_takeOut_31 rfl hw
set_option maxRecDepth 20000 in
theorem ktX11_takeOut {l : Launch} {G : Gt} {σ : Hp} (x0 : Nat) (x1 : Int32) : ∀ Z, kX11_takeOut σ x0 x1 = some Z → MtC l G yX11_takeOut cX11_takeOut 2 (some .boolean) 5 109 [G.rv x0, .int x1] σ (some (.int Z.1)) Z.2 := fun Z h => MtC.at (by decide +kernel) ⟨G.rv_cat _, rfl, trivial⟩ (Nat.le_of_ble_eq_true rfl) (ksX11_takeOut x0 x1 h)
/-! X11_drop -/
def kX11_drop (σ : Hp) (x0 : Nat) (x1 : Int32) : Option (Int32 × Hp) := (gfr σ 21 1100 x0).bind (fun v1 => ckd σ v1 17 ((kX7_has σ v1 x1).bind (fun v2 => if v2 = 0 then (zb 0).bind (fun w => some (w, σ)) else (gfr σ 21 1107 x0).bind (fun v3 => (gfr σ 21 1100 x0).bind (fun v4 => ckd σ v3 14 ((kX4_keep σ v3 v4).bind (fun σ5 => ckd σ5 x0 21 (bd2 (kX11_takeOut σ5 x0 x1) (fun v6 σ7 => if v6 = 0 then (zb 1).bind (fun w => some (w, σ7)) else (gfr σ7 21 1103 x0).bind (fun v8 => ckd σ7 v8 19 ((kX9_buildAnew σ7 v8).bind (fun σ9 => (zb 1).bind (fun w => some (w, σ9))))))))))))))
set_option maxRecDepth 20000 in
theorem ksX11_drop {l : Launch} {G : Gt} {n0 u0 : Nat} {σ : Hp} {Z : Int32 × Hp} (x0 : Nat) (x1 : Int32) (h : kX11_drop σ x0 x1 = some Z) : GoC l G RX11 "drop" cX11_drop 2 (some .boolean) 11 276 n0 u0 (some (.int Z.1)) Z.2 0 [(0, G.rv x0), (1, .int x1)] [] σ := by
  unfold kX11_drop at h
  refine GC.aload_n 0 dX11_drop_0 rfl ?_
  refine GC.getr 11 0 rfl (by decide) (by decide) fw_X11_12 (Or.inl rfl) dX11_drop_1 h (fun v1 h => ?_)
  refine GoC.iload_n 1 dX11_drop_4 rfl ?_
  obtain ⟨h0, h⟩ := ckd_some h
  obtain ⟨v2, hq, h⟩ := Option.bind_eq_some_iff.mp h
  refine GC.callvI (rest := []) 7 rfl h0 rfl [.int x1] dX11_drop_5 kk_X11_101 km_X7_has.1 km_X7_has.2 (ktX7_has _ _ _ hq) rfl rfl (Nat.le_of_ble_eq_true rfl) (Nat.le_of_ble_eq_true rfl) trivial (Nat.le_of_ble_eq_true rfl) ?_
  refine GoC.if_ne 13 dX11_drop_8 (by decide) h (fun h => ?_) (fun h => ?_)
  · refine GC.aload_n 0 dX11_drop_13 rfl ?_
    refine GC.getr 11 7 rfl (by decide) (by decide) fw_X11_67 (Or.inl rfl) dX11_drop_14 h (fun v3 h => ?_)
    refine GC.aload_n 0 dX11_drop_17 rfl ?_
    refine GC.getr 11 0 rfl (by decide) (by decide) fw_X11_12 (Or.inl rfl) dX11_drop_18 h (fun v4 h => ?_)
    obtain ⟨h0, h⟩ := ckd_some h
    obtain ⟨σ5, hq, h⟩ := Option.bind_eq_some_iff.mp h
    refine GC.callvV (rest := []) 4 rfl h0 rfl [G.rv v4] dX11_drop_21 kk_X11_89 km_X4_keep.1 km_X4_keep.2 (ktX4_keep _ _ _ hq) rfl rfl (Nat.le_of_ble_eq_true rfl) (Nat.le_of_ble_eq_true rfl) trivial (Nat.le_of_ble_eq_true rfl) ?_
    refine GC.aload_n 0 dX11_drop_24 rfl ?_
    refine GoC.iload_n 1 dX11_drop_25 rfl ?_
    obtain ⟨h0, h⟩ := ckd_some h
    obtain ⟨v6, σ7, hq, h⟩ := bd2_some h
    refine GC.callvI (rest := []) 11 rfl h0 rfl [.int x1] dX11_drop_26 kk_X11_104 km_X11_takeOut.1 km_X11_takeOut.2 (ktX11_takeOut _ _ _ hq) rfl rfl (Nat.le_of_ble_eq_true rfl) (Nat.le_of_ble_eq_true rfl) trivial (Nat.le_of_ble_eq_true rfl) ?_
    refine GoC.if_eq 39 dX11_drop_29 (by decide) h (fun h => ?_) (fun h => ?_)
    · refine GoC.iconst 1 dX11_drop_39 (by decide) ?_
      obtain ⟨w, hw, h⟩ := Option.bind_eq_some_iff.mp h
      cases h
      exact GoC.zret dX11_drop_40 rfl hw
    · refine GC.aload_n 0 dX11_drop_32 rfl ?_
      refine GC.getr 11 3 rfl (by decide) (by decide) fw_X11_37 (Or.inl rfl) dX11_drop_33 h (fun v8 h => ?_)
      obtain ⟨h0, h⟩ := ckd_some h
      obtain ⟨σ9, hq, h⟩ := Option.bind_eq_some_iff.mp h
      refine GC.callvV (rest := []) 9 rfl h0 rfl [] dX11_drop_36 kk_X11_107 km_X9_buildAnew.1 km_X9_buildAnew.2 (ktX9_buildAnew _ _ hq) rfl rfl (Nat.le_of_ble_eq_true rfl) (Nat.le_of_ble_eq_true rfl) trivial (Nat.le_of_ble_eq_true rfl) ?_
      refine GoC.iconst 1 dX11_drop_39 (by decide) ?_
      obtain ⟨w, hw, h⟩ := Option.bind_eq_some_iff.mp h
      cases h
      exact GoC.zret dX11_drop_40 rfl hw
  · refine GoC.iconst 0 dX11_drop_11 (by decide) ?_
    obtain ⟨w, hw, h⟩ := Option.bind_eq_some_iff.mp h
    cases h
    exact GoC.zret dX11_drop_12 rfl hw
set_option maxRecDepth 20000 in
theorem ktX11_drop {l : Launch} {G : Gt} {σ : Hp} (x0 : Nat) (x1 : Int32) : ∀ Z, kX11_drop σ x0 x1 = some Z → MtC l G yX11_drop cX11_drop 2 (some .boolean) 11 276 [G.rv x0, .int x1] σ (some (.int Z.1)) Z.2 := fun Z h => MtC.at (by decide +kernel) ⟨G.rv_cat _, rfl, trivial⟩ (Nat.le_of_ble_eq_true rfl) (ksX11_drop x0 x1 h)
/-! X11_measure -/
def kX11_measure (σ : Hp) (x0 : Nat) (x1 : Int32) : Option (Int32 × Hp) := if x1 < 0 then (zb 0).bind (fun w => some (w, σ)) else if x1 ≤ 3 then (gfr σ 21 1107 x0).bind (fun v1 => (gfr σ 21 1100 x0).bind (fun v2 => ckd σ v1 14 ((kX4_keep σ v1 v2).bind (fun σ3 => (gfr σ3 21 1100 x0).bind (fun v4 => (pfi σ3 17 706 v4 x1).bind (fun σ5 => (gfr σ5 21 1102 x0).bind (fun v6 => (gfr σ5 21 1100 x0).bind (fun v7 => ckd σ5 v6 11 ((kX1_follow σ5 v6 v7).bind (fun σ8 => (gfr σ8 21 1103 x0).bind (fun v9 => ckd σ8 v9 19 ((kX9_buildAnew σ8 v9).bind (fun σ10 => (zb 1).bind (fun w => some (w, σ10))))))))))))))) else (zb 0).bind (fun w => some (w, σ))
set_option maxRecDepth 20000 in
theorem ksX11_measure {l : Launch} {G : Gt} {n0 u0 : Nat} {σ : Hp} {Z : Int32 × Hp} (x0 : Nat) (x1 : Int32) (h : kX11_measure σ x0 x1 = some Z) : GoC l G RX11 "measure" cX11_measure 2 (some .boolean) 11 276 n0 u0 (some (.int Z.1)) Z.2 0 [(0, G.rv x0), (1, .int x1)] [] σ := by
  unfold kX11_measure at h
  refine GoC.iload_n 1 dX11_measure_0 rfl ?_
  refine GoC.if_lt 9 dX11_measure_1 (by decide) h (fun h => ?_) (fun h => ?_)
  · refine GoC.iconst 0 dX11_measure_9 (by decide) ?_
    obtain ⟨w, hw, h⟩ := Option.bind_eq_some_iff.mp h
    cases h
    exact GoC.zret dX11_measure_10 rfl hw
  · refine GoC.iload_n 1 dX11_measure_4 rfl ?_
    refine GoC.iconst 3 dX11_measure_5 (by decide) ?_
    refine GoC.icmp_le 11 dX11_measure_6 (by decide) h (fun h => ?_) (fun h => ?_)
    · refine GC.aload_n 0 dX11_measure_11 rfl ?_
      refine GC.getr 11 7 rfl (by decide) (by decide) fw_X11_67 (Or.inl rfl) dX11_measure_12 h (fun v1 h => ?_)
      refine GC.aload_n 0 dX11_measure_15 rfl ?_
      refine GC.getr 11 0 rfl (by decide) (by decide) fw_X11_12 (Or.inl rfl) dX11_measure_16 h (fun v2 h => ?_)
      obtain ⟨h0, h⟩ := ckd_some h
      obtain ⟨σ3, hq, h⟩ := Option.bind_eq_some_iff.mp h
      refine GC.callvV (rest := []) 4 rfl h0 rfl [G.rv v2] dX11_measure_19 kk_X11_89 km_X4_keep.1 km_X4_keep.2 (ktX4_keep _ _ _ hq) rfl rfl (Nat.le_of_ble_eq_true rfl) (Nat.le_of_ble_eq_true rfl) trivial (Nat.le_of_ble_eq_true rfl) ?_
      refine GC.aload_n 0 dX11_measure_22 rfl ?_
      refine GC.getr 11 0 rfl (by decide) (by decide) fw_X11_12 (Or.inl rfl) dX11_measure_23 h (fun v4 h => ?_)
      refine GoC.iload_n 1 dX11_measure_26 rfl ?_
      refine GC.puti 7 6 rfl (by decide) (by decide) (rfl) fw_X11_110 (Or.inl rfl) (Or.inl rfl) dX11_measure_27 h (fun σ5 h => ?_)
      refine GC.aload_n 0 dX11_measure_30 rfl ?_
      refine GC.getr 11 2 rfl (by decide) (by decide) fw_X11_28 (Or.inl rfl) dX11_measure_31 h (fun v6 h => ?_)
      refine GC.aload_n 0 dX11_measure_34 rfl ?_
      refine GC.getr 11 0 rfl (by decide) (by decide) fw_X11_12 (Or.inl rfl) dX11_measure_35 h (fun v7 h => ?_)
      obtain ⟨h0, h⟩ := ckd_some h
      obtain ⟨σ8, hq, h⟩ := Option.bind_eq_some_iff.mp h
      refine GC.callvV (rest := []) 1 rfl h0 rfl [G.rv v7] dX11_measure_38 kk_X11_114 km_X1_follow.1 km_X1_follow.2 (ktX1_follow _ _ _ hq) rfl rfl (Nat.le_of_ble_eq_true rfl) (Nat.le_of_ble_eq_true rfl) trivial (Nat.le_of_ble_eq_true rfl) ?_
      refine GC.aload_n 0 dX11_measure_41 rfl ?_
      refine GC.getr 11 3 rfl (by decide) (by decide) fw_X11_37 (Or.inl rfl) dX11_measure_42 h (fun v9 h => ?_)
      obtain ⟨h0, h⟩ := ckd_some h
      obtain ⟨σ10, hq, h⟩ := Option.bind_eq_some_iff.mp h
      refine GC.callvV (rest := []) 9 rfl h0 rfl [] dX11_measure_45 kk_X11_107 km_X9_buildAnew.1 km_X9_buildAnew.2 (ktX9_buildAnew _ _ hq) rfl rfl (Nat.le_of_ble_eq_true rfl) (Nat.le_of_ble_eq_true rfl) trivial (Nat.le_of_ble_eq_true rfl) ?_
      refine GoC.iconst 1 dX11_measure_48 (by decide) ?_
      obtain ⟨w, hw, h⟩ := Option.bind_eq_some_iff.mp h
      cases h
      exact GoC.zret dX11_measure_49 rfl hw
    · refine GoC.iconst 0 dX11_measure_9 (by decide) ?_
      obtain ⟨w, hw, h⟩ := Option.bind_eq_some_iff.mp h
      cases h
      exact GoC.zret dX11_measure_10 rfl hw
set_option maxRecDepth 20000 in
theorem ktX11_measure {l : Launch} {G : Gt} {σ : Hp} (x0 : Nat) (x1 : Int32) : ∀ Z, kX11_measure σ x0 x1 = some Z → MtC l G yX11_measure cX11_measure 2 (some .boolean) 11 276 [G.rv x0, .int x1] σ (some (.int Z.1)) Z.2 := fun Z h => MtC.at (by decide +kernel) ⟨G.rv_cat _, rfl, trivial⟩ (Nat.le_of_ble_eq_true rfl) (ksX11_measure x0 x1 h)
/-! X11_isCap -/
def kX11_isCap (σ : Hp) (x0 : Int32) : Option (Int32) := if x0 < 2 then zb 0 else if 6 < x0 then zb 0 else zb 1
set_option maxRecDepth 20000 in
theorem ksX11_isCap {l : Launch} {G : Gt} {n0 u0 : Nat} {σ : Hp} {Z : Int32} (x0 : Int32) (h : kX11_isCap σ x0 = some Z) : GoC l G RX11 "isCap" cX11_isCap 1 (some .boolean) 0 0 n0 u0 (some (.int Z)) σ 0 [(0, .int x0)] [] σ := by
  unfold kX11_isCap at h
  refine GoC.iload_n 0 dX11_isCap_0 rfl ?_
  refine GoC.iconst 2 dX11_isCap_1 (by decide) ?_
  refine GoC.icmp_lt 15 dX11_isCap_2 (by decide) h (fun h => ?_) (fun h => ?_)
  · refine GoC.iconst 0 dX11_isCap_15 (by decide) ?_
    exact GoC.zret dX11_isCap_16 rfl h
  · refine GoC.iload_n 0 dX11_isCap_5 rfl ?_
    refine GoC.bipush 6 dX11_isCap_6 (by decide) ?_
    refine GoC.icmp_gt 15 dX11_isCap_8 (by decide) h (fun h => ?_) (fun h => ?_)
    · refine GoC.iconst 0 dX11_isCap_15 (by decide) ?_
      exact GoC.zret dX11_isCap_16 rfl h
    · refine GoC.iconst 1 dX11_isCap_11 (by decide) ?_
      refine GoC.goto 16 dX11_isCap_12 (by decide) ?_
      exact GoC.zret dX11_isCap_16 rfl h
set_option maxRecDepth 20000 in
theorem ktX11_isCap {l : Launch} {G : Gt} {σ : Hp} (x0 : Int32) : ∀ Z, kX11_isCap σ x0 = some Z → MtC l G yX11_isCap cX11_isCap 1 (some .boolean) 0 0 [.int x0] σ (some (.int Z)) σ := fun Z h => MtC.at (by decide +kernel) ⟨rfl, trivial⟩ (Nat.le_of_ble_eq_true rfl) (ksX11_isCap x0 h)
/-! X11_cap -/
def kX11_cap (σ : Hp) (x0 : Nat) (x1 : Int32) : Option (Int32 × Hp) := (kX11_isCap σ x1).bind (fun v1 => if v1 = 0 then (zb 0).bind (fun w => some (w, σ)) else (gfr σ 21 1107 x0).bind (fun v2 => (gfr σ 21 1100 x0).bind (fun v3 => ckd σ v2 14 ((kX4_keep σ v2 v3).bind (fun σ4 => (gfr σ4 21 1100 x0).bind (fun v5 => (pfi σ4 17 707 v5 x1).bind (fun σ6 => (gfr σ6 21 1103 x0).bind (fun v7 => ckd σ6 v7 19 ((kX9_buildAnew σ6 v7).bind (fun σ8 => (zb 1).bind (fun w => some (w, σ8))))))))))))
set_option maxRecDepth 20000 in
theorem ksX11_cap {l : Launch} {G : Gt} {n0 u0 : Nat} {σ : Hp} {Z : Int32 × Hp} (x0 : Nat) (x1 : Int32) (h : kX11_cap σ x0 x1 = some Z) : GoC l G RX11 "cap" cX11_cap 2 (some .boolean) 11 276 n0 u0 (some (.int Z.1)) Z.2 0 [(0, G.rv x0), (1, .int x1)] [] σ := by
  unfold kX11_cap at h
  refine GoC.iload_n 1 dX11_cap_0 rfl ?_
  obtain ⟨v1, hq, h⟩ := Option.bind_eq_some_iff.mp h
  refine GC.callsI (rest := []) [.int x1] dX11_cap_1 kk_X11_117 km_X11_isCap (ktX11_isCap _ _ hq) rfl rfl (Nat.le_of_ble_eq_true rfl) (Nat.le_of_ble_eq_true rfl) trivial (Nat.le_of_ble_eq_true rfl) ?_
  refine GoC.if_ne 9 dX11_cap_4 (by decide) h (fun h => ?_) (fun h => ?_)
  · refine GC.aload_n 0 dX11_cap_9 rfl ?_
    refine GC.getr 11 7 rfl (by decide) (by decide) fw_X11_67 (Or.inl rfl) dX11_cap_10 h (fun v2 h => ?_)
    refine GC.aload_n 0 dX11_cap_13 rfl ?_
    refine GC.getr 11 0 rfl (by decide) (by decide) fw_X11_12 (Or.inl rfl) dX11_cap_14 h (fun v3 h => ?_)
    obtain ⟨h0, h⟩ := ckd_some h
    obtain ⟨σ4, hq, h⟩ := Option.bind_eq_some_iff.mp h
    refine GC.callvV (rest := []) 4 rfl h0 rfl [G.rv v3] dX11_cap_17 kk_X11_89 km_X4_keep.1 km_X4_keep.2 (ktX4_keep _ _ _ hq) rfl rfl (Nat.le_of_ble_eq_true rfl) (Nat.le_of_ble_eq_true rfl) trivial (Nat.le_of_ble_eq_true rfl) ?_
    refine GC.aload_n 0 dX11_cap_20 rfl ?_
    refine GC.getr 11 0 rfl (by decide) (by decide) fw_X11_12 (Or.inl rfl) dX11_cap_21 h (fun v5 h => ?_)
    refine GoC.iload_n 1 dX11_cap_24 rfl ?_
    refine GC.puti 7 7 rfl (by decide) (by decide) (rfl) fw_X11_120 (Or.inl rfl) (Or.inl rfl) dX11_cap_25 h (fun σ6 h => ?_)
    refine GC.aload_n 0 dX11_cap_28 rfl ?_
    refine GC.getr 11 3 rfl (by decide) (by decide) fw_X11_37 (Or.inl rfl) dX11_cap_29 h (fun v7 h => ?_)
    obtain ⟨h0, h⟩ := ckd_some h
    obtain ⟨σ8, hq, h⟩ := Option.bind_eq_some_iff.mp h
    refine GC.callvV (rest := []) 9 rfl h0 rfl [] dX11_cap_32 kk_X11_107 km_X9_buildAnew.1 km_X9_buildAnew.2 (ktX9_buildAnew _ _ hq) rfl rfl (Nat.le_of_ble_eq_true rfl) (Nat.le_of_ble_eq_true rfl) trivial (Nat.le_of_ble_eq_true rfl) ?_
    refine GoC.iconst 1 dX11_cap_35 (by decide) ?_
    obtain ⟨w, hw, h⟩ := Option.bind_eq_some_iff.mp h
    cases h
    exact GoC.zret dX11_cap_36 rfl hw
  · refine GoC.iconst 0 dX11_cap_7 (by decide) ?_
    obtain ⟨w, hw, h⟩ := Option.bind_eq_some_iff.mp h
    cases h
    exact GoC.zret dX11_cap_8 rfl hw
set_option maxRecDepth 20000 in
theorem ktX11_cap {l : Launch} {G : Gt} {σ : Hp} (x0 : Nat) (x1 : Int32) : ∀ Z, kX11_cap σ x0 x1 = some Z → MtC l G yX11_cap cX11_cap 2 (some .boolean) 11 276 [G.rv x0, .int x1] σ (some (.int Z.1)) Z.2 := fun Z h => MtC.at (by decide +kernel) ⟨G.rv_cat _, rfl, trivial⟩ (Nat.le_of_ble_eq_true rfl) (ksX11_cap x0 x1 h)
/-! X11_isFar -/
def kX11_isFar (σ : Hp) (x0 : Int32) : Option (Int32) := if x0 < 0 then zb 0 else if 99 < x0 then zb 0 else zb 1
set_option maxRecDepth 20000 in
theorem ksX11_isFar {l : Launch} {G : Gt} {n0 u0 : Nat} {σ : Hp} {Z : Int32} (x0 : Int32) (h : kX11_isFar σ x0 = some Z) : GoC l G RX11 "isFar" cX11_isFar 1 (some .boolean) 0 0 n0 u0 (some (.int Z)) σ 0 [(0, .int x0)] [] σ := by
  unfold kX11_isFar at h
  refine GoC.iload_n 0 dX11_isFar_0 rfl ?_
  refine GoC.if_lt 14 dX11_isFar_1 (by decide) h (fun h => ?_) (fun h => ?_)
  · refine GoC.iconst 0 dX11_isFar_14 (by decide) ?_
    exact GoC.zret dX11_isFar_15 rfl h
  · refine GoC.iload_n 0 dX11_isFar_4 rfl ?_
    refine GoC.bipush 99 dX11_isFar_5 (by decide) ?_
    refine GoC.icmp_gt 14 dX11_isFar_7 (by decide) h (fun h => ?_) (fun h => ?_)
    · refine GoC.iconst 0 dX11_isFar_14 (by decide) ?_
      exact GoC.zret dX11_isFar_15 rfl h
    · refine GoC.iconst 1 dX11_isFar_10 (by decide) ?_
      refine GoC.goto 15 dX11_isFar_11 (by decide) ?_
      exact GoC.zret dX11_isFar_15 rfl h
set_option maxRecDepth 20000 in
theorem ktX11_isFar {l : Launch} {G : Gt} {σ : Hp} (x0 : Int32) : ∀ Z, kX11_isFar σ x0 = some Z → MtC l G yX11_isFar cX11_isFar 1 (some .boolean) 0 0 [.int x0] σ (some (.int Z)) σ := fun Z h => MtC.at (by decide +kernel) ⟨rfl, trivial⟩ (Nat.le_of_ble_eq_true rfl) (ksX11_isFar x0 h)
/-! X11_tell -/
def kX11_tell_67  (x0 : Nat) (x1 : Int32) (x2 : Int32) (x3 : Int32) (x4 : Int32) (σ : Hp) : Option (Int32 × Hp) := (gfr σ 21 1107 x0).bind (fun v1 => (gfr σ 21 1100 x0).bind (fun v2 => ckd σ v1 14 ((kX4_keep σ v1 v2).bind (fun σ3 => (gfr σ3 21 1100 x0).bind (fun v4 => ckd σ3 v4 17 ((kX7_noteTold σ3 v4 x4 x1 x2 x3).bind (fun σ5 => (gfr σ5 21 1102 x0).bind (fun v6 => (gfr σ5 21 1100 x0).bind (fun v7 => ckd σ5 v6 11 ((kX1_follow σ5 v6 v7).bind (fun σ8 => (gfr σ8 21 1103 x0).bind (fun v9 => ckd σ8 v9 19 ((kX9_buildAnew σ8 v9).bind (fun σ10 => (gfr σ10 21 1100 x0).bind (fun v11 => (gfi σ10 17 705 v11).bind (fun v12 => some (v12, σ10)))))))))))))))))
def kX11_tell (σ : Hp) (x0 : Nat) (x1 : Int32) (x2 : Int32) (x3 : Int32) : Option (Int32 × Hp) := (gfr σ 21 1100 x0).bind (fun v13 => ckd σ v13 17 ((kX7_has σ v13 x1).bind (fun v14 => if v14 = 0 then some ((-1), σ) else (gfr σ 21 1100 x0).bind (fun v15 => ckd σ v15 17 ((kX7_has σ v15 x2).bind (fun v16 => if v16 = 0 then some ((-1), σ) else if x1 = x2 then some ((-1), σ) else (kX11_isFar σ x3).bind (fun v17 => if v17 = 0 then some ((-1), σ) else (gfr σ 21 1100 x0).bind (fun v18 => ckd σ v18 17 ((kX7_toldAt σ v18 x1 x2).bind (fun v19 => if v19 = (-1) then (gfr σ 21 1100 x0).bind (fun v20 => (gfi σ 17 705 v20).bind (fun v21 => if v21 < 16 then kX11_tell_67 x0 x1 x2 x3 v19 σ else some ((-1), σ))) else kX11_tell_67 x0 x1 x2 x3 v19 σ))))))))))
set_option maxRecDepth 20000 in
theorem ksX11_tell_67 {l : Launch} {G : Gt} {n0 u0 : Nat} {Z : Int32 × Hp} (x0 : Nat) (x1 : Int32) (x2 : Int32) (x3 : Int32) (x4 : Int32) (σ : Hp) (h : kX11_tell_67 x0 x1 x2 x3 x4 σ = some Z) : GoC l G RX11 "tell" cX11_tell 5 (some .int) 11 276 n0 u0 (some (.int Z.1)) Z.2 67 [(0, G.rv x0), (1, .int x1), (2, .int x2), (3, .int x3), (4, .int x4)] [] σ := by
  unfold kX11_tell_67 at h
  refine GC.aload_n 0 dX11_tell_67 rfl ?_
  refine GC.getr 11 7 rfl (by decide) (by decide) fw_X11_67 (Or.inl rfl) dX11_tell_68 h (fun v1 h => ?_)
  refine GC.aload_n 0 dX11_tell_71 rfl ?_
  refine GC.getr 11 0 rfl (by decide) (by decide) fw_X11_12 (Or.inl rfl) dX11_tell_72 h (fun v2 h => ?_)
  obtain ⟨h0, h⟩ := ckd_some h
  obtain ⟨σ3, hq, h⟩ := Option.bind_eq_some_iff.mp h
  refine GC.callvV (rest := []) 4 rfl h0 rfl [G.rv v2] dX11_tell_75 kk_X11_89 km_X4_keep.1 km_X4_keep.2 (ktX4_keep _ _ _ hq) rfl rfl (Nat.le_of_ble_eq_true rfl) (Nat.le_of_ble_eq_true rfl) trivial (Nat.le_of_ble_eq_true rfl) ?_
  refine GC.aload_n 0 dX11_tell_78 rfl ?_
  refine GC.getr 11 0 rfl (by decide) (by decide) fw_X11_12 (Or.inl rfl) dX11_tell_79 h (fun v4 h => ?_)
  refine GoC.iload 4 dX11_tell_82 rfl ?_
  refine GoC.iload_n 1 dX11_tell_84 rfl ?_
  refine GoC.iload_n 2 dX11_tell_85 rfl ?_
  refine GoC.iload_n 3 dX11_tell_86 rfl ?_
  obtain ⟨h0, h⟩ := ckd_some h
  obtain ⟨σ5, hq, h⟩ := Option.bind_eq_some_iff.mp h
  refine GC.callvV (rest := []) 7 rfl h0 rfl [.int x4, .int x1, .int x2, .int x3] dX11_tell_87 kk_X11_132 km_X7_noteTold.1 km_X7_noteTold.2 (ktX7_noteTold _ _ _ _ _ _ hq) rfl rfl (Nat.le_of_ble_eq_true rfl) (Nat.le_of_ble_eq_true rfl) trivial (Nat.le_of_ble_eq_true rfl) ?_
  refine GC.aload_n 0 dX11_tell_90 rfl ?_
  refine GC.getr 11 2 rfl (by decide) (by decide) fw_X11_28 (Or.inl rfl) dX11_tell_91 h (fun v6 h => ?_)
  refine GC.aload_n 0 dX11_tell_94 rfl ?_
  refine GC.getr 11 0 rfl (by decide) (by decide) fw_X11_12 (Or.inl rfl) dX11_tell_95 h (fun v7 h => ?_)
  obtain ⟨h0, h⟩ := ckd_some h
  obtain ⟨σ8, hq, h⟩ := Option.bind_eq_some_iff.mp h
  refine GC.callvV (rest := []) 1 rfl h0 rfl [G.rv v7] dX11_tell_98 kk_X11_114 km_X1_follow.1 km_X1_follow.2 (ktX1_follow _ _ _ hq) rfl rfl (Nat.le_of_ble_eq_true rfl) (Nat.le_of_ble_eq_true rfl) trivial (Nat.le_of_ble_eq_true rfl) ?_
  refine GC.aload_n 0 dX11_tell_101 rfl ?_
  refine GC.getr 11 3 rfl (by decide) (by decide) fw_X11_37 (Or.inl rfl) dX11_tell_102 h (fun v9 h => ?_)
  obtain ⟨h0, h⟩ := ckd_some h
  obtain ⟨σ10, hq, h⟩ := Option.bind_eq_some_iff.mp h
  refine GC.callvV (rest := []) 9 rfl h0 rfl [] dX11_tell_105 kk_X11_107 km_X9_buildAnew.1 km_X9_buildAnew.2 (ktX9_buildAnew _ _ hq) rfl rfl (Nat.le_of_ble_eq_true rfl) (Nat.le_of_ble_eq_true rfl) trivial (Nat.le_of_ble_eq_true rfl) ?_
  refine GC.aload_n 0 dX11_tell_108 rfl ?_
  refine GC.getr 11 0 rfl (by decide) (by decide) fw_X11_12 (Or.inl rfl) dX11_tell_109 h (fun v11 h => ?_)
  refine GC.geti 7 5 rfl (by decide) (by decide) fw_X11_129 (Or.inl rfl) dX11_tell_112 h (fun v12 h => ?_)
  cases h
  exact GoC.iret dX11_tell_115 rfl
set_option maxRecDepth 20000 in
theorem ksX11_tell {l : Launch} {G : Gt} {n0 u0 : Nat} {σ : Hp} {Z : Int32 × Hp} (x0 : Nat) (x1 : Int32) (x2 : Int32) (x3 : Int32) (h : kX11_tell σ x0 x1 x2 x3 = some Z) : GoC l G RX11 "tell" cX11_tell 5 (some .int) 11 276 n0 u0 (some (.int Z.1)) Z.2 0 [(0, G.rv x0), (1, .int x1), (2, .int x2), (3, .int x3)] [] σ := by
  unfold kX11_tell at h
  refine GC.aload_n 0 dX11_tell_0 rfl ?_
  refine GC.getr 11 0 rfl (by decide) (by decide) fw_X11_12 (Or.inl rfl) dX11_tell_1 h (fun v13 h => ?_)
  refine GoC.iload_n 1 dX11_tell_4 rfl ?_
  obtain ⟨h0, h⟩ := ckd_some h
  obtain ⟨v14, hq, h⟩ := Option.bind_eq_some_iff.mp h
  refine GC.callvI (rest := []) 7 rfl h0 rfl [.int x1] dX11_tell_5 kk_X11_101 km_X7_has.1 km_X7_has.2 (ktX7_has _ _ _ hq) rfl rfl (Nat.le_of_ble_eq_true rfl) (Nat.le_of_ble_eq_true rfl) trivial (Nat.le_of_ble_eq_true rfl) ?_
  refine GoC.if_eq 34 dX11_tell_8 (by decide) h (fun h => ?_) (fun h => ?_)
  · refine GoC.iconst (-1) dX11_tell_34 (by decide) ?_
    cases h
    exact GoC.iret dX11_tell_35 rfl
  · refine GC.aload_n 0 dX11_tell_11 rfl ?_
    refine GC.getr 11 0 rfl (by decide) (by decide) fw_X11_12 (Or.inl rfl) dX11_tell_12 h (fun v15 h => ?_)
    refine GoC.iload_n 2 dX11_tell_15 rfl ?_
    obtain ⟨h0, h⟩ := ckd_some h
    obtain ⟨v16, hq, h⟩ := Option.bind_eq_some_iff.mp h
    refine GC.callvI (rest := []) 7 rfl h0 rfl [.int x2] dX11_tell_16 kk_X11_101 km_X7_has.1 km_X7_has.2 (ktX7_has _ _ _ hq) rfl rfl (Nat.le_of_ble_eq_true rfl) (Nat.le_of_ble_eq_true rfl) trivial (Nat.le_of_ble_eq_true rfl) ?_
    refine GoC.if_eq 34 dX11_tell_19 (by decide) h (fun h => ?_) (fun h => ?_)
    · refine GoC.iconst (-1) dX11_tell_34 (by decide) ?_
      cases h
      exact GoC.iret dX11_tell_35 rfl
    · refine GoC.iload_n 1 dX11_tell_22 rfl ?_
      refine GoC.iload_n 2 dX11_tell_23 rfl ?_
      refine GoC.icmp_eq 34 dX11_tell_24 (by decide) h (fun h => ?_) (fun h => ?_)
      · refine GoC.iconst (-1) dX11_tell_34 (by decide) ?_
        cases h
        exact GoC.iret dX11_tell_35 rfl
      · refine GoC.iload_n 3 dX11_tell_27 rfl ?_
        obtain ⟨v17, hq, h⟩ := Option.bind_eq_some_iff.mp h
        refine GC.callsI (rest := []) [.int x3] dX11_tell_28 kk_X11_123 km_X11_isFar (ktX11_isFar _ _ hq) rfl rfl (Nat.le_of_ble_eq_true rfl) (Nat.le_of_ble_eq_true rfl) trivial (Nat.le_of_ble_eq_true rfl) ?_
        refine GoC.if_ne 36 dX11_tell_31 (by decide) h (fun h => ?_) (fun h => ?_)
        · refine GC.aload_n 0 dX11_tell_36 rfl ?_
          refine GC.getr 11 0 rfl (by decide) (by decide) fw_X11_12 (Or.inl rfl) dX11_tell_37 h (fun v18 h => ?_)
          refine GoC.iload_n 1 dX11_tell_40 rfl ?_
          refine GoC.iload_n 2 dX11_tell_41 rfl ?_
          obtain ⟨h0, h⟩ := ckd_some h
          obtain ⟨v19, hq, h⟩ := Option.bind_eq_some_iff.mp h
          refine GC.callvI (rest := []) 7 rfl h0 rfl [.int x1, .int x2] dX11_tell_42 kk_X11_126 km_X7_toldAt.1 km_X7_toldAt.2 (ktX7_toldAt _ _ _ _ hq) rfl rfl (Nat.le_of_ble_eq_true rfl) (Nat.le_of_ble_eq_true rfl) trivial (Nat.le_of_ble_eq_true rfl) ?_
          refine GoC.istore [(0, G.rv x0), (1, .int x1), (2, .int x2), (3, .int x3), (4, .int v19)] dX11_tell_45 (by decide) rfl ?_
          refine GoC.iload 4 dX11_tell_47 rfl ?_
          refine GoC.iconst (-1) dX11_tell_49 (by decide) ?_
          refine GoC.icmp_ne 67 dX11_tell_50 (by decide) h (fun h => ?_) (fun h => ?_)
          · exact ksX11_tell_67 _ _ _ _ _ _ h
          · refine GC.aload_n 0 dX11_tell_53 rfl ?_
            refine GC.getr 11 0 rfl (by decide) (by decide) fw_X11_12 (Or.inl rfl) dX11_tell_54 h (fun v20 h => ?_)
            refine GC.geti 7 5 rfl (by decide) (by decide) fw_X11_129 (Or.inl rfl) dX11_tell_57 h (fun v21 h => ?_)
            refine GoC.bipush 16 dX11_tell_60 (by decide) ?_
            refine GoC.icmp_lt 67 dX11_tell_62 (by decide) h (fun h => ?_) (fun h => ?_)
            · exact ksX11_tell_67 _ _ _ _ _ _ h
            · refine GoC.iconst (-1) dX11_tell_65 (by decide) ?_
              cases h
              exact GoC.iret dX11_tell_66 rfl
        · refine GoC.iconst (-1) dX11_tell_34 (by decide) ?_
          cases h
          exact GoC.iret dX11_tell_35 rfl
set_option maxRecDepth 20000 in
theorem ktX11_tell {l : Launch} {G : Gt} {σ : Hp} (x0 : Nat) (x1 : Int32) (x2 : Int32) (x3 : Int32) : ∀ Z, kX11_tell σ x0 x1 x2 x3 = some Z → MtC l G yX11_tell cX11_tell 5 (some .int) 11 276 [G.rv x0, .int x1, .int x2, .int x3] σ (some (.int Z.1)) Z.2 := fun Z h => MtC.at (by decide +kernel) ⟨G.rv_cat _, rfl, rfl, rfl, trivial⟩ (Nat.le_of_ble_eq_true rfl) (ksX11_tell x0 x1 x2 x3 h)
/-! X11_wipe -/
def kX11_wipe (σ : Hp) (x0 : Nat) : Option (Int32 × Hp) := (gfr σ 21 1107 x0).bind (fun v1 => (gfr σ 21 1100 x0).bind (fun v2 => ckd σ v1 14 ((kX4_keep σ v1 v2).bind (fun σ3 => (gfr σ3 21 1100 x0).bind (fun v4 => (gfi σ3 17 705 v4).bind (fun v5 => (gfr σ3 21 1100 x0).bind (fun v6 => (pfi σ3 17 705 v6 0).bind (fun σ7 => (gfr σ7 21 1102 x0).bind (fun v8 => (gfr σ7 21 1100 x0).bind (fun v9 => ckd σ7 v8 11 ((kX1_follow σ7 v8 v9).bind (fun σ10 => (gfr σ10 21 1103 x0).bind (fun v11 => ckd σ10 v11 19 ((kX9_buildAnew σ10 v11).bind (fun σ12 => some (v5, σ12))))))))))))))))
set_option maxRecDepth 20000 in
theorem ksX11_wipe {l : Launch} {G : Gt} {n0 u0 : Nat} {σ : Hp} {Z : Int32 × Hp} (x0 : Nat) (h : kX11_wipe σ x0 = some Z) : GoC l G RX11 "wipe" cX11_wipe 2 (some .int) 11 276 n0 u0 (some (.int Z.1)) Z.2 0 [(0, G.rv x0)] [] σ := by
  unfold kX11_wipe at h
  refine GC.aload_n 0 dX11_wipe_0 rfl ?_
  refine GC.getr 11 7 rfl (by decide) (by decide) fw_X11_67 (Or.inl rfl) dX11_wipe_1 h (fun v1 h => ?_)
  refine GC.aload_n 0 dX11_wipe_4 rfl ?_
  refine GC.getr 11 0 rfl (by decide) (by decide) fw_X11_12 (Or.inl rfl) dX11_wipe_5 h (fun v2 h => ?_)
  obtain ⟨h0, h⟩ := ckd_some h
  obtain ⟨σ3, hq, h⟩ := Option.bind_eq_some_iff.mp h
  refine GC.callvV (rest := []) 4 rfl h0 rfl [G.rv v2] dX11_wipe_8 kk_X11_89 km_X4_keep.1 km_X4_keep.2 (ktX4_keep _ _ _ hq) rfl rfl (Nat.le_of_ble_eq_true rfl) (Nat.le_of_ble_eq_true rfl) trivial (Nat.le_of_ble_eq_true rfl) ?_
  refine GC.aload_n 0 dX11_wipe_11 rfl ?_
  refine GC.getr 11 0 rfl (by decide) (by decide) fw_X11_12 (Or.inl rfl) dX11_wipe_12 h (fun v4 h => ?_)
  refine GC.geti 7 5 rfl (by decide) (by decide) fw_X11_129 (Or.inl rfl) dX11_wipe_15 h (fun v5 h => ?_)
  refine GoC.istore_n [(0, G.rv x0), (1, .int v5)] dX11_wipe_18 (by decide) rfl ?_
  refine GC.aload_n 0 dX11_wipe_19 rfl ?_
  refine GC.getr 11 0 rfl (by decide) (by decide) fw_X11_12 (Or.inl rfl) dX11_wipe_20 h (fun v6 h => ?_)
  refine GoC.iconst 0 dX11_wipe_23 (by decide) ?_
  refine GC.puti 7 5 rfl (by decide) (by decide) (rfl) fw_X11_129 (Or.inl rfl) (Or.inl rfl) dX11_wipe_24 h (fun σ7 h => ?_)
  refine GC.aload_n 0 dX11_wipe_27 rfl ?_
  refine GC.getr 11 2 rfl (by decide) (by decide) fw_X11_28 (Or.inl rfl) dX11_wipe_28 h (fun v8 h => ?_)
  refine GC.aload_n 0 dX11_wipe_31 rfl ?_
  refine GC.getr 11 0 rfl (by decide) (by decide) fw_X11_12 (Or.inl rfl) dX11_wipe_32 h (fun v9 h => ?_)
  obtain ⟨h0, h⟩ := ckd_some h
  obtain ⟨σ10, hq, h⟩ := Option.bind_eq_some_iff.mp h
  refine GC.callvV (rest := []) 1 rfl h0 rfl [G.rv v9] dX11_wipe_35 kk_X11_114 km_X1_follow.1 km_X1_follow.2 (ktX1_follow _ _ _ hq) rfl rfl (Nat.le_of_ble_eq_true rfl) (Nat.le_of_ble_eq_true rfl) trivial (Nat.le_of_ble_eq_true rfl) ?_
  refine GC.aload_n 0 dX11_wipe_38 rfl ?_
  refine GC.getr 11 3 rfl (by decide) (by decide) fw_X11_37 (Or.inl rfl) dX11_wipe_39 h (fun v11 h => ?_)
  obtain ⟨h0, h⟩ := ckd_some h
  obtain ⟨σ12, hq, h⟩ := Option.bind_eq_some_iff.mp h
  refine GC.callvV (rest := []) 9 rfl h0 rfl [] dX11_wipe_42 kk_X11_107 km_X9_buildAnew.1 km_X9_buildAnew.2 (ktX9_buildAnew _ _ hq) rfl rfl (Nat.le_of_ble_eq_true rfl) (Nat.le_of_ble_eq_true rfl) trivial (Nat.le_of_ble_eq_true rfl) ?_
  refine GoC.iload_n 1 dX11_wipe_45 rfl ?_
  cases h
  exact GoC.iret dX11_wipe_46 rfl
set_option maxRecDepth 20000 in
theorem ktX11_wipe {l : Launch} {G : Gt} {σ : Hp} (x0 : Nat) : ∀ Z, kX11_wipe σ x0 = some Z → MtC l G yX11_wipe cX11_wipe 2 (some .int) 11 276 [G.rv x0] σ (some (.int Z.1)) Z.2 := fun Z h => MtC.at (by decide +kernel) ⟨G.rv_cat _, trivial⟩ (Nat.le_of_ble_eq_true rfl) (ksX11_wipe x0 h)
/-! X11_build -/
def kX11_build (σ : Hp) (x0 : Nat) : Option (Int32 × Hp) := (gfr σ 21 1107 x0).bind (fun v1 => (gfr σ 21 1100 x0).bind (fun v2 => ckd σ v1 14 ((kX4_keep σ v1 v2).bind (fun σ3 => (gfr σ3 21 1103 x0).bind (fun v4 => ckd σ3 v4 19 ((kX9_buildAnew σ3 v4).bind (fun σ5 => (gfr σ5 21 1100 x0).bind (fun v6 => (gfi σ5 17 709 v6).bind (fun v7 => some (v7, σ5))))))))))
set_option maxRecDepth 20000 in
theorem ksX11_build {l : Launch} {G : Gt} {n0 u0 : Nat} {σ : Hp} {Z : Int32 × Hp} (x0 : Nat) (h : kX11_build σ x0 = some Z) : GoC l G RX11 "build" cX11_build 1 (some .int) 11 276 n0 u0 (some (.int Z.1)) Z.2 0 [(0, G.rv x0)] [] σ := by
  unfold kX11_build at h
  refine GC.aload_n 0 dX11_build_0 rfl ?_
  refine GC.getr 11 7 rfl (by decide) (by decide) fw_X11_67 (Or.inl rfl) dX11_build_1 h (fun v1 h => ?_)
  refine GC.aload_n 0 dX11_build_4 rfl ?_
  refine GC.getr 11 0 rfl (by decide) (by decide) fw_X11_12 (Or.inl rfl) dX11_build_5 h (fun v2 h => ?_)
  obtain ⟨h0, h⟩ := ckd_some h
  obtain ⟨σ3, hq, h⟩ := Option.bind_eq_some_iff.mp h
  refine GC.callvV (rest := []) 4 rfl h0 rfl [G.rv v2] dX11_build_8 kk_X11_89 km_X4_keep.1 km_X4_keep.2 (ktX4_keep _ _ _ hq) rfl rfl (Nat.le_of_ble_eq_true rfl) (Nat.le_of_ble_eq_true rfl) trivial (Nat.le_of_ble_eq_true rfl) ?_
  refine GC.aload_n 0 dX11_build_11 rfl ?_
  refine GC.getr 11 3 rfl (by decide) (by decide) fw_X11_37 (Or.inl rfl) dX11_build_12 h (fun v4 h => ?_)
  obtain ⟨h0, h⟩ := ckd_some h
  obtain ⟨σ5, hq, h⟩ := Option.bind_eq_some_iff.mp h
  refine GC.callvV (rest := []) 9 rfl h0 rfl [] dX11_build_15 kk_X11_107 km_X9_buildAnew.1 km_X9_buildAnew.2 (ktX9_buildAnew _ _ hq) rfl rfl (Nat.le_of_ble_eq_true rfl) (Nat.le_of_ble_eq_true rfl) trivial (Nat.le_of_ble_eq_true rfl) ?_
  refine GC.aload_n 0 dX11_build_18 rfl ?_
  refine GC.getr 11 0 rfl (by decide) (by decide) fw_X11_12 (Or.inl rfl) dX11_build_19 h (fun v6 h => ?_)
  refine GC.geti 7 9 rfl (by decide) (by decide) fw_X11_136 (Or.inl rfl) dX11_build_22 h (fun v7 h => ?_)
  cases h
  exact GoC.iret dX11_build_25 rfl
set_option maxRecDepth 20000 in
theorem ktX11_build {l : Launch} {G : Gt} {σ : Hp} (x0 : Nat) : ∀ Z, kX11_build σ x0 = some Z → MtC l G yX11_build cX11_build 1 (some .int) 11 276 [G.rv x0] σ (some (.int Z.1)) Z.2 := fun Z h => MtC.at (by decide +kernel) ⟨G.rv_cat _, trivial⟩ (Nat.le_of_ble_eq_true rfl) (ksX11_build x0 h)
/-! X11_spell -/
def kX11_spell_63  (x0 : Nat) (x1 : Int32) (x2 : Int32) (σ : Hp) : Option (Int32 × Hp) := ckd σ x0 21 (bd2 (kX11_bringIn σ x0 x1 x2) (fun v1 σ2 => (zb 1).bind (fun w => some (w, σ2))))
def kX11_spell (σ : Hp) (x0 : Nat) (x1 : Int32) (x2 : Int32) : Option (Int32 × Hp) := (gfr σ 21 1100 x0).bind (fun v3 => ckd σ v3 17 ((kX7_has σ v3 x1).bind (fun v4 => if v4 = 0 then (zb 0).bind (fun w => some (w, σ)) else (gfr σ 21 1101 x0).bind (fun v5 => ckd σ v5 12 ((kX2_lettersIn σ v5 x2).bind (fun v6 => if v6 = (-1) then (zb 0).bind (fun w => some (w, σ)) else (gfr σ 21 1100 x0).bind (fun v7 => ckd σ v7 17 ((kX7_numberOf σ v7 x2).bind (fun v8 => if v8 = (-1) then (gfr σ 21 1107 x0).bind (fun v9 => (gfr σ 21 1100 x0).bind (fun v10 => ckd σ v9 14 ((kX4_keep σ v9 v10).bind (fun σ11 => ckd σ11 x0 21 (bd2 (kX11_takeOut σ11 x0 x1) (fun v12 σ13 => if v12 = 0 then kX11_spell_63 x0 x1 x2 σ13 else (gfr σ13 21 1103 x0).bind (fun v14 => ckd σ13 v14 19 ((kX9_buildAnew σ13 v14).bind (fun σ15 => kX11_spell_63 x0 x1 x2 σ15))))))))) else (zb 0).bind (fun w => some (w, σ)))))))))))
set_option maxRecDepth 20000 in
theorem ksX11_spell_63 {l : Launch} {G : Gt} {n0 u0 : Nat} {Z : Int32 × Hp} (x0 : Nat) (x1 : Int32) (x2 : Int32) (σ : Hp) (h : kX11_spell_63 x0 x1 x2 σ = some Z) : GoC l G RX11 "spell" cX11_spell 3 (some .boolean) 11 277 n0 u0 (some (.int Z.1)) Z.2 63 [(0, G.rv x0), (1, .int x1), (2, .int x2)] [] σ := by
  unfold kX11_spell_63 at h
  refine GC.aload_n 0 dX11_spell_63 rfl ?_
  refine GoC.iload_n 1 dX11_spell_64 rfl ?_
  refine GoC.iload_n 2 dX11_spell_65 rfl ?_
  obtain ⟨h0, h⟩ := ckd_some h
  obtain ⟨v1, σ2, hq, h⟩ := bd2_some h
  refine GC.callvI (rest := []) 11 rfl h0 rfl [.int x1, .int x2] dX11_spell_66 kk_X11_97 km_X11_bringIn.1 km_X11_bringIn.2 (ktX11_bringIn _ _ _ _ hq) rfl rfl (Nat.le_of_ble_eq_true rfl) (Nat.le_of_ble_eq_true rfl) trivial (Nat.le_of_ble_eq_true rfl) ?_
  refine GoC.pop dX11_spell_69 (rfl) ?_
  refine GoC.iconst 1 dX11_spell_70 (by decide) ?_
  obtain ⟨w, hw, h⟩ := Option.bind_eq_some_iff.mp h
  cases h
  exact GoC.zret dX11_spell_71 rfl hw
set_option maxRecDepth 20000 in
theorem ksX11_spell {l : Launch} {G : Gt} {n0 u0 : Nat} {σ : Hp} {Z : Int32 × Hp} (x0 : Nat) (x1 : Int32) (x2 : Int32) (h : kX11_spell σ x0 x1 x2 = some Z) : GoC l G RX11 "spell" cX11_spell 3 (some .boolean) 11 277 n0 u0 (some (.int Z.1)) Z.2 0 [(0, G.rv x0), (1, .int x1), (2, .int x2)] [] σ := by
  unfold kX11_spell at h
  refine GC.aload_n 0 dX11_spell_0 rfl ?_
  refine GC.getr 11 0 rfl (by decide) (by decide) fw_X11_12 (Or.inl rfl) dX11_spell_1 h (fun v3 h => ?_)
  refine GoC.iload_n 1 dX11_spell_4 rfl ?_
  obtain ⟨h0, h⟩ := ckd_some h
  obtain ⟨v4, hq, h⟩ := Option.bind_eq_some_iff.mp h
  refine GC.callvI (rest := []) 7 rfl h0 rfl [.int x1] dX11_spell_5 kk_X11_101 km_X7_has.1 km_X7_has.2 (ktX7_has _ _ _ hq) rfl rfl (Nat.le_of_ble_eq_true rfl) (Nat.le_of_ble_eq_true rfl) trivial (Nat.le_of_ble_eq_true rfl) ?_
  refine GoC.if_eq 35 dX11_spell_8 (by decide) h (fun h => ?_) (fun h => ?_)
  · refine GoC.iconst 0 dX11_spell_35 (by decide) ?_
    obtain ⟨w, hw, h⟩ := Option.bind_eq_some_iff.mp h
    cases h
    exact GoC.zret dX11_spell_36 rfl hw
  · refine GC.aload_n 0 dX11_spell_11 rfl ?_
    refine GC.getr 11 1 rfl (by decide) (by decide) fw_X11_19 (Or.inl rfl) dX11_spell_12 h (fun v5 h => ?_)
    refine GoC.iload_n 2 dX11_spell_15 rfl ?_
    obtain ⟨h0, h⟩ := ckd_some h
    obtain ⟨v6, hq, h⟩ := Option.bind_eq_some_iff.mp h
    refine GC.callvI (rest := []) 2 rfl h0 rfl [.int x2] dX11_spell_16 kk_X11_139 km_X2_lettersIn.1 km_X2_lettersIn.2 (ktX2_lettersIn _ _ _ hq) rfl rfl (Nat.le_of_ble_eq_true rfl) (Nat.le_of_ble_eq_true rfl) trivial (Nat.le_of_ble_eq_true rfl) ?_
    refine GoC.iconst (-1) dX11_spell_19 (by decide) ?_
    refine GoC.icmp_eq 35 dX11_spell_20 (by decide) h (fun h => ?_) (fun h => ?_)
    · refine GoC.iconst 0 dX11_spell_35 (by decide) ?_
      obtain ⟨w, hw, h⟩ := Option.bind_eq_some_iff.mp h
      cases h
      exact GoC.zret dX11_spell_36 rfl hw
    · refine GC.aload_n 0 dX11_spell_23 rfl ?_
      refine GC.getr 11 0 rfl (by decide) (by decide) fw_X11_12 (Or.inl rfl) dX11_spell_24 h (fun v7 h => ?_)
      refine GoC.iload_n 2 dX11_spell_27 rfl ?_
      obtain ⟨h0, h⟩ := ckd_some h
      obtain ⟨v8, hq, h⟩ := Option.bind_eq_some_iff.mp h
      refine GC.callvI (rest := []) 7 rfl h0 rfl [.int x2] dX11_spell_28 kk_X11_143 km_X7_numberOf.1 km_X7_numberOf.2 (ktX7_numberOf _ _ _ hq) rfl rfl (Nat.le_of_ble_eq_true rfl) (Nat.le_of_ble_eq_true rfl) trivial (Nat.le_of_ble_eq_true rfl) ?_
      refine GoC.iconst (-1) dX11_spell_31 (by decide) ?_
      refine GoC.icmp_eq 37 dX11_spell_32 (by decide) h (fun h => ?_) (fun h => ?_)
      · refine GC.aload_n 0 dX11_spell_37 rfl ?_
        refine GC.getr 11 7 rfl (by decide) (by decide) fw_X11_67 (Or.inl rfl) dX11_spell_38 h (fun v9 h => ?_)
        refine GC.aload_n 0 dX11_spell_41 rfl ?_
        refine GC.getr 11 0 rfl (by decide) (by decide) fw_X11_12 (Or.inl rfl) dX11_spell_42 h (fun v10 h => ?_)
        obtain ⟨h0, h⟩ := ckd_some h
        obtain ⟨σ11, hq, h⟩ := Option.bind_eq_some_iff.mp h
        refine GC.callvV (rest := []) 4 rfl h0 rfl [G.rv v10] dX11_spell_45 kk_X11_89 km_X4_keep.1 km_X4_keep.2 (ktX4_keep _ _ _ hq) rfl rfl (Nat.le_of_ble_eq_true rfl) (Nat.le_of_ble_eq_true rfl) trivial (Nat.le_of_ble_eq_true rfl) ?_
        refine GC.aload_n 0 dX11_spell_48 rfl ?_
        refine GoC.iload_n 1 dX11_spell_49 rfl ?_
        obtain ⟨h0, h⟩ := ckd_some h
        obtain ⟨v12, σ13, hq, h⟩ := bd2_some h
        refine GC.callvI (rest := []) 11 rfl h0 rfl [.int x1] dX11_spell_50 kk_X11_104 km_X11_takeOut.1 km_X11_takeOut.2 (ktX11_takeOut _ _ _ hq) rfl rfl (Nat.le_of_ble_eq_true rfl) (Nat.le_of_ble_eq_true rfl) trivial (Nat.le_of_ble_eq_true rfl) ?_
        refine GoC.if_eq 63 dX11_spell_53 (by decide) h (fun h => ?_) (fun h => ?_)
        · exact ksX11_spell_63 _ _ _ _ h
        · refine GC.aload_n 0 dX11_spell_56 rfl ?_
          refine GC.getr 11 3 rfl (by decide) (by decide) fw_X11_37 (Or.inl rfl) dX11_spell_57 h (fun v14 h => ?_)
          obtain ⟨h0, h⟩ := ckd_some h
          obtain ⟨σ15, hq, h⟩ := Option.bind_eq_some_iff.mp h
          refine GC.callvV (rest := []) 9 rfl h0 rfl [] dX11_spell_60 kk_X11_107 km_X9_buildAnew.1 km_X9_buildAnew.2 (ktX9_buildAnew _ _ hq) rfl rfl (Nat.le_of_ble_eq_true rfl) (Nat.le_of_ble_eq_true rfl) trivial (Nat.le_of_ble_eq_true rfl) ?_
          exact ksX11_spell_63 _ _ _ _ h
      · refine GoC.iconst 0 dX11_spell_35 (by decide) ?_
        obtain ⟨w, hw, h⟩ := Option.bind_eq_some_iff.mp h
        cases h
        exact GoC.zret dX11_spell_36 rfl hw
set_option maxRecDepth 20000 in
theorem ktX11_spell {l : Launch} {G : Gt} {σ : Hp} (x0 : Nat) (x1 : Int32) (x2 : Int32) : ∀ Z, kX11_spell σ x0 x1 x2 = some Z → MtC l G yX11_spell cX11_spell 3 (some .boolean) 11 277 [G.rv x0, .int x1, .int x2] σ (some (.int Z.1)) Z.2 := fun Z h => MtC.at (by decide +kernel) ⟨G.rv_cat _, rfl, rfl, trivial⟩ (Nat.le_of_ble_eq_true rfl) (ksX11_spell x0 x1 x2 h)
/-! X11_tight -/
def kX11_tight (σ : Hp) (x0 : Nat) : Option (Int32 × Hp) := (gfr σ 21 1107 x0).bind (fun v1 => (gfr σ 21 1100 x0).bind (fun v2 => ckd σ v1 14 ((kX4_keep σ v1 v2).bind (fun σ3 => (gfr σ3 21 1104 x0).bind (fun v4 => ckd σ3 v4 20 (bd2 (kX10_tighten σ3 v4) (fun v5 σ6 => some (v5, σ6))))))))
set_option maxRecDepth 20000 in
theorem ksX11_tight {l : Launch} {G : Gt} {n0 u0 : Nat} {σ : Hp} {Z : Int32 × Hp} (x0 : Nat) (h : kX11_tight σ x0 = some Z) : GoC l G RX11 "tight" cX11_tight 1 (some .int) 10 245 n0 u0 (some (.int Z.1)) Z.2 0 [(0, G.rv x0)] [] σ := by
  unfold kX11_tight at h
  refine GC.aload_n 0 dX11_tight_0 rfl ?_
  refine GC.getr 11 7 rfl (by decide) (by decide) fw_X11_67 (Or.inl rfl) dX11_tight_1 h (fun v1 h => ?_)
  refine GC.aload_n 0 dX11_tight_4 rfl ?_
  refine GC.getr 11 0 rfl (by decide) (by decide) fw_X11_12 (Or.inl rfl) dX11_tight_5 h (fun v2 h => ?_)
  obtain ⟨h0, h⟩ := ckd_some h
  obtain ⟨σ3, hq, h⟩ := Option.bind_eq_some_iff.mp h
  refine GC.callvV (rest := []) 4 rfl h0 rfl [G.rv v2] dX11_tight_8 kk_X11_89 km_X4_keep.1 km_X4_keep.2 (ktX4_keep _ _ _ hq) rfl rfl (Nat.le_of_ble_eq_true rfl) (Nat.le_of_ble_eq_true rfl) trivial (Nat.le_of_ble_eq_true rfl) ?_
  refine GC.aload_n 0 dX11_tight_11 rfl ?_
  refine GC.getr 11 4 rfl (by decide) (by decide) fw_X11_44 (Or.inl rfl) dX11_tight_12 h (fun v4 h => ?_)
  obtain ⟨h0, h⟩ := ckd_some h
  obtain ⟨v5, σ6, hq, h⟩ := bd2_some h
  refine GC.callvI (rest := []) 10 rfl h0 rfl [] dX11_tight_15 kk_X11_146 km_X10_tighten.1 km_X10_tighten.2 (ktX10_tighten _ _ hq) rfl rfl (Nat.le_of_ble_eq_true rfl) (Nat.le_of_ble_eq_true rfl) trivial (Nat.le_of_ble_eq_true rfl) ?_
  cases h
  exact GoC.iret dX11_tight_18 rfl
set_option maxRecDepth 20000 in
theorem ktX11_tight {l : Launch} {G : Gt} {σ : Hp} (x0 : Nat) : ∀ Z, kX11_tight σ x0 = some Z → MtC l G yX11_tight cX11_tight 1 (some .int) 10 245 [G.rv x0] σ (some (.int Z.1)) Z.2 := fun Z h => MtC.at (by decide +kernel) ⟨G.rv_cat _, trivial⟩ (Nat.le_of_ble_eq_true rfl) (ksX11_tight x0 h)
/-! X11_feed -/
def kX11_feed (σ : Hp) (x0 : Nat) (x1 : Int32) (x2 : Int32) (x3 : Int32) (x4 : Int32) (x5 : Int32) : Option (Int32 × Hp) := (gfr σ 21 1108 x0).bind (fun v1 => ckd σ v1 10 ((kX0_hasRoom σ v1).bind (fun v2 => if v2 = 0 then some ((-1), σ) else (gfr σ 21 1108 x0).bind (fun v3 => ckd σ v3 10 ((kX0_addFour σ v3 x1).bind (fun σ4 => (gfr σ4 21 1108 x0).bind (fun v5 => ckd σ4 v5 10 ((kX0_addFour σ4 v5 x2).bind (fun σ6 => (gfr σ6 21 1108 x0).bind (fun v7 => ckd σ6 v7 10 ((kX0_addFour σ6 v7 x3).bind (fun σ8 => (gfr σ8 21 1108 x0).bind (fun v9 => ckd σ8 v9 10 ((kX0_addFour σ8 v9 x4).bind (fun σ10 => (gfr σ10 21 1108 x0).bind (fun v11 => ckd σ10 v11 10 ((kX0_addFour σ10 v11 x5).bind (fun σ12 => (gfr σ12 21 1108 x0).bind (fun v13 => (gfi σ12 10 1 v13).bind (fun v14 => some (v14, σ12)))))))))))))))))))))
set_option maxRecDepth 20000 in
theorem ksX11_feed {l : Launch} {G : Gt} {n0 u0 : Nat} {σ : Hp} {Z : Int32 × Hp} (x0 : Nat) (x1 : Int32) (x2 : Int32) (x3 : Int32) (x4 : Int32) (x5 : Int32) (h : kX11_feed σ x0 x1 x2 x3 x4 x5 = some Z) : GoC l G RX11 "feed" cX11_feed 6 (some .int) 1 22 n0 u0 (some (.int Z.1)) Z.2 0 [(0, G.rv x0), (1, .int x1), (2, .int x2), (3, .int x3), (4, .int x4), (5, .int x5)] [] σ := by
  unfold kX11_feed at h
  refine GC.aload_n 0 dX11_feed_0 rfl ?_
  refine GC.getr 11 8 rfl (by decide) (by decide) fw_X11_74 (Or.inl rfl) dX11_feed_1 h (fun v1 h => ?_)
  obtain ⟨h0, h⟩ := ckd_some h
  obtain ⟨v2, hq, h⟩ := Option.bind_eq_some_iff.mp h
  refine GC.callvI (rest := []) 0 rfl h0 rfl [] dX11_feed_4 kk_X11_149 km_X0_hasRoom.1 km_X0_hasRoom.2 (ktX0_hasRoom _ _ hq) rfl rfl (Nat.le_of_ble_eq_true rfl) (Nat.le_of_ble_eq_true rfl) trivial (Nat.le_of_ble_eq_true rfl) ?_
  refine GoC.if_ne 12 dX11_feed_7 (by decide) h (fun h => ?_) (fun h => ?_)
  · refine GC.aload_n 0 dX11_feed_12 rfl ?_
    refine GC.getr 11 8 rfl (by decide) (by decide) fw_X11_74 (Or.inl rfl) dX11_feed_13 h (fun v3 h => ?_)
    refine GoC.iload_n 1 dX11_feed_16 rfl ?_
    obtain ⟨h0, h⟩ := ckd_some h
    obtain ⟨σ4, hq, h⟩ := Option.bind_eq_some_iff.mp h
    refine GC.callvV (rest := []) 0 rfl h0 rfl [.int x1] dX11_feed_17 kk_X11_153 km_X0_addFour.1 km_X0_addFour.2 (ktX0_addFour _ _ _ hq) rfl rfl (Nat.le_of_ble_eq_true rfl) (Nat.le_of_ble_eq_true rfl) trivial (Nat.le_of_ble_eq_true rfl) ?_
    refine GC.aload_n 0 dX11_feed_20 rfl ?_
    refine GC.getr 11 8 rfl (by decide) (by decide) fw_X11_74 (Or.inl rfl) dX11_feed_21 h (fun v5 h => ?_)
    refine GoC.iload_n 2 dX11_feed_24 rfl ?_
    obtain ⟨h0, h⟩ := ckd_some h
    obtain ⟨σ6, hq, h⟩ := Option.bind_eq_some_iff.mp h
    refine GC.callvV (rest := []) 0 rfl h0 rfl [.int x2] dX11_feed_25 kk_X11_153 km_X0_addFour.1 km_X0_addFour.2 (ktX0_addFour _ _ _ hq) rfl rfl (Nat.le_of_ble_eq_true rfl) (Nat.le_of_ble_eq_true rfl) trivial (Nat.le_of_ble_eq_true rfl) ?_
    refine GC.aload_n 0 dX11_feed_28 rfl ?_
    refine GC.getr 11 8 rfl (by decide) (by decide) fw_X11_74 (Or.inl rfl) dX11_feed_29 h (fun v7 h => ?_)
    refine GoC.iload_n 3 dX11_feed_32 rfl ?_
    obtain ⟨h0, h⟩ := ckd_some h
    obtain ⟨σ8, hq, h⟩ := Option.bind_eq_some_iff.mp h
    refine GC.callvV (rest := []) 0 rfl h0 rfl [.int x3] dX11_feed_33 kk_X11_153 km_X0_addFour.1 km_X0_addFour.2 (ktX0_addFour _ _ _ hq) rfl rfl (Nat.le_of_ble_eq_true rfl) (Nat.le_of_ble_eq_true rfl) trivial (Nat.le_of_ble_eq_true rfl) ?_
    refine GC.aload_n 0 dX11_feed_36 rfl ?_
    refine GC.getr 11 8 rfl (by decide) (by decide) fw_X11_74 (Or.inl rfl) dX11_feed_37 h (fun v9 h => ?_)
    refine GoC.iload 4 dX11_feed_40 rfl ?_
    obtain ⟨h0, h⟩ := ckd_some h
    obtain ⟨σ10, hq, h⟩ := Option.bind_eq_some_iff.mp h
    refine GC.callvV (rest := []) 0 rfl h0 rfl [.int x4] dX11_feed_42 kk_X11_153 km_X0_addFour.1 km_X0_addFour.2 (ktX0_addFour _ _ _ hq) rfl rfl (Nat.le_of_ble_eq_true rfl) (Nat.le_of_ble_eq_true rfl) trivial (Nat.le_of_ble_eq_true rfl) ?_
    refine GC.aload_n 0 dX11_feed_45 rfl ?_
    refine GC.getr 11 8 rfl (by decide) (by decide) fw_X11_74 (Or.inl rfl) dX11_feed_46 h (fun v11 h => ?_)
    refine GoC.iload 5 dX11_feed_49 rfl ?_
    obtain ⟨h0, h⟩ := ckd_some h
    obtain ⟨σ12, hq, h⟩ := Option.bind_eq_some_iff.mp h
    refine GC.callvV (rest := []) 0 rfl h0 rfl [.int x5] dX11_feed_51 kk_X11_153 km_X0_addFour.1 km_X0_addFour.2 (ktX0_addFour _ _ _ hq) rfl rfl (Nat.le_of_ble_eq_true rfl) (Nat.le_of_ble_eq_true rfl) trivial (Nat.le_of_ble_eq_true rfl) ?_
    refine GC.aload_n 0 dX11_feed_54 rfl ?_
    refine GC.getr 11 8 rfl (by decide) (by decide) fw_X11_74 (Or.inl rfl) dX11_feed_55 h (fun v13 h => ?_)
    refine GC.geti 0 1 rfl (by decide) (by decide) fw_X11_157 (Or.inl rfl) dX11_feed_58 h (fun v14 h => ?_)
    cases h
    exact GoC.iret dX11_feed_61 rfl
  · refine GoC.iconst (-1) dX11_feed_10 (by decide) ?_
    cases h
    exact GoC.iret dX11_feed_11 rfl
set_option maxRecDepth 20000 in
theorem ktX11_feed {l : Launch} {G : Gt} {σ : Hp} (x0 : Nat) (x1 : Int32) (x2 : Int32) (x3 : Int32) (x4 : Int32) (x5 : Int32) : ∀ Z, kX11_feed σ x0 x1 x2 x3 x4 x5 = some Z → MtC l G yX11_feed cX11_feed 6 (some .int) 1 22 [G.rv x0, .int x1, .int x2, .int x3, .int x4, .int x5] σ (some (.int Z.1)) Z.2 := fun Z h => MtC.at (by decide +kernel) ⟨G.rv_cat _, rfl, rfl, rfl, rfl, rfl, trivial⟩ (Nat.le_of_ble_eq_true rfl) (ksX11_feed x0 x1 x2 x3 x4 x5 h)
/-! X11_end -/
def kX11_end (σ : Hp) (x0 : Nat) (x1 : Int32) : Option (Int32 × Hp) := if x1 < 0 then some ((-1), σ) else (gfr σ 21 1108 x0).bind (fun v1 => (gfi σ 10 1 v1).bind (fun v2 => if x1 ≤ v2 then (gfr σ 21 1108 x0).bind (fun v3 => (pfi σ 10 1 v3 x1).bind (fun σ4 => some (x1, σ4))) else some ((-1), σ)))
set_option maxRecDepth 20000 in
theorem ksX11_end {l : Launch} {G : Gt} {n0 u0 : Nat} {σ : Hp} {Z : Int32 × Hp} (x0 : Nat) (x1 : Int32) (h : kX11_end σ x0 x1 = some Z) : GoC l G RX11 "end" cX11_end 2 (some .int) 0 0 n0 u0 (some (.int Z.1)) Z.2 0 [(0, G.rv x0), (1, .int x1)] [] σ := by
  unfold kX11_end at h
  refine GoC.iload_n 1 dX11_end_0 rfl ?_
  refine GoC.if_lt 15 dX11_end_1 (by decide) h (fun h => ?_) (fun h => ?_)
  · refine GoC.iconst (-1) dX11_end_15 (by decide) ?_
    cases h
    exact GoC.iret dX11_end_16 rfl
  · refine GoC.iload_n 1 dX11_end_4 rfl ?_
    refine GC.aload_n 0 dX11_end_5 rfl ?_
    refine GC.getr 11 8 rfl (by decide) (by decide) fw_X11_74 (Or.inl rfl) dX11_end_6 h (fun v1 h => ?_)
    refine GC.geti 0 1 rfl (by decide) (by decide) fw_X11_157 (Or.inl rfl) dX11_end_9 h (fun v2 h => ?_)
    refine GoC.icmp_le 17 dX11_end_12 (by decide) h (fun h => ?_) (fun h => ?_)
    · refine GC.aload_n 0 dX11_end_17 rfl ?_
      refine GC.getr 11 8 rfl (by decide) (by decide) fw_X11_74 (Or.inl rfl) dX11_end_18 h (fun v3 h => ?_)
      refine GoC.iload_n 1 dX11_end_21 rfl ?_
      refine GC.puti 0 1 rfl (by decide) (by decide) (rfl) fw_X11_157 (Or.inl rfl) (Or.inl rfl) dX11_end_22 h (fun σ4 h => ?_)
      refine GoC.iload_n 1 dX11_end_25 rfl ?_
      cases h
      exact GoC.iret dX11_end_26 rfl
    · refine GoC.iconst (-1) dX11_end_15 (by decide) ?_
      cases h
      exact GoC.iret dX11_end_16 rfl
set_option maxRecDepth 20000 in
theorem ktX11_end {l : Launch} {G : Gt} {σ : Hp} (x0 : Nat) (x1 : Int32) : ∀ Z, kX11_end σ x0 x1 = some Z → MtC l G yX11_end cX11_end 2 (some .int) 0 0 [G.rv x0, .int x1] σ (some (.int Z.1)) Z.2 := fun Z h => MtC.at (by decide +kernel) ⟨G.rv_cat _, rfl, trivial⟩ (Nat.le_of_ble_eq_true rfl) (ksX11_end x0 x1 h)
/-! X11_isHowMany -/
def kX11_isHowMany (σ : Hp) (x0 : Int32) : Option (Int32) := if x0 < 1 then zb 0 else if 40 < x0 then zb 0 else zb 1
set_option maxRecDepth 20000 in
theorem ksX11_isHowMany {l : Launch} {G : Gt} {n0 u0 : Nat} {σ : Hp} {Z : Int32} (x0 : Int32) (h : kX11_isHowMany σ x0 = some Z) : GoC l G RX11 "isHowMany" cX11_isHowMany 1 (some .boolean) 0 0 n0 u0 (some (.int Z)) σ 0 [(0, .int x0)] [] σ := by
  unfold kX11_isHowMany at h
  refine GoC.iload_n 0 dX11_isHowMany_0 rfl ?_
  refine GoC.iconst 1 dX11_isHowMany_1 (by decide) ?_
  refine GoC.icmp_lt 15 dX11_isHowMany_2 (by decide) h (fun h => ?_) (fun h => ?_)
  · refine GoC.iconst 0 dX11_isHowMany_15 (by decide) ?_
    exact GoC.zret dX11_isHowMany_16 rfl h
  · refine GoC.iload_n 0 dX11_isHowMany_5 rfl ?_
    refine GoC.bipush 40 dX11_isHowMany_6 (by decide) ?_
    refine GoC.icmp_gt 15 dX11_isHowMany_8 (by decide) h (fun h => ?_) (fun h => ?_)
    · refine GoC.iconst 0 dX11_isHowMany_15 (by decide) ?_
      exact GoC.zret dX11_isHowMany_16 rfl h
    · refine GoC.iconst 1 dX11_isHowMany_11 (by decide) ?_
      refine GoC.goto 16 dX11_isHowMany_12 (by decide) ?_
      exact GoC.zret dX11_isHowMany_16 rfl h
set_option maxRecDepth 20000 in
theorem ktX11_isHowMany {l : Launch} {G : Gt} {σ : Hp} (x0 : Int32) : ∀ Z, kX11_isHowMany σ x0 = some Z → MtC l G yX11_isHowMany cX11_isHowMany 1 (some .boolean) 0 0 [.int x0] σ (some (.int Z)) σ := fun Z h => MtC.at (by decide +kernel) ⟨rfl, trivial⟩ (Nat.le_of_ble_eq_true rfl) (ksX11_isHowMany x0 h)
