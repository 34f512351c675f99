/-! X7_init -/
def kX7_init (σ : Hp) (x0 : Nat) : Option (Hp) := (nz x0).bind (fun _ => bd2 (nwA σ 1 40) (fun v1 σ2 => (pfr σ2 17 700 x0 v1).bind (fun σ3 => bd2 (nwA σ3 1 16) (fun v4 σ5 => (pfr σ5 17 702 x0 v4).bind (fun σ6 => bd2 (nwA σ6 1 16) (fun v7 σ8 => (pfr σ8 17 703 x0 v7).bind (fun σ9 => bd2 (nwA σ9 1 16) (fun v10 σ11 => (pfr σ11 17 704 x0 v10).bind (fun σ12 => (pfi σ12 17 706 x0 0).bind (fun σ13 => (pfi σ13 17 707 x0 4).bind (fun σ14 => bd2 (nwO σ14 12 3) (fun v15 σ16 => (nz v15).bind (fun _ => (kJx4a65c_init_da8c8 σ16 v15).bind (fun σ17 => (pfr σ17 17 708 x0 v15).bind (fun σ18 => (pfi σ18 17 709 x0 1).bind (fun σ19 => (gfr σ19 17 708 x0).bind (fun v20 => bd2 (nwO σ19 3 14) (fun v21 σ22 => (nz v21).bind (fun _ => (kX3_init σ22 v21).bind (fun σ23 => ckd σ23 v20 22 (bd2 (kJx4a65c_add_9ea2d σ23 v20 v21) (fun v24 σ25 => some σ25))))))))))))))))))))))
set_option maxRecDepth 20000 in
theorem ksX7_init {l : Launch} {G : Gt} {n0 u0 : Nat} {σ : Hp} {Z : Hp} (x0 : Nat) (h : kX7_init σ x0 = some Z) : GoC l G RX7 "<init>" cX7_init 1 none 7 179 n0 u0 none Z 0 [(0, G.rv x0)] [] σ := by
  unfold kX7_init at h
  refine GC.aload_n 0 dX7_init_0 rfl ?_
  obtain ⟨_, h0, h⟩ := Option.bind_eq_some_iff.mp h
  refine GC.oinit (nz_ne h0) oi_X7_3 oi_inst oi_code dX7_init_1 (Nat.le_of_ble_eq_true rfl) trivial (Nat.le_of_ble_eq_true rfl) ?_
  refine GC.aload_n 0 dX7_init_4 rfl ?_
  refine GoC.bipush 40 dX7_init_5 (by decide) ?_
  refine GC.newI ac_int dX7_init_7 h (fun v1 σ2 h => ?_)
  refine GC.putr 7 0 rfl (by decide) (by decide) (Or.inr ⟨_, rfl⟩) fw_X7_9 (Or.inl rfl) (Or.inr ⟨rfl, rfl, rfl⟩) dX7_init_9 h (fun σ3 h => ?_)
  refine GC.aload_n 0 dX7_init_12 rfl ?_
  refine GoC.bipush 16 dX7_init_13 (by decide) ?_
  refine GC.newI ac_int dX7_init_15 h (fun v4 σ5 h => ?_)
  refine GC.putr 7 2 rfl (by decide) (by decide) (Or.inr ⟨_, rfl⟩) fw_X7_15 (Or.inl rfl) (Or.inr ⟨rfl, rfl, rfl⟩) dX7_init_17 h (fun σ6 h => ?_)
  refine GC.aload_n 0 dX7_init_20 rfl ?_
  refine GoC.bipush 16 dX7_init_21 (by decide) ?_
  refine GC.newI ac_int dX7_init_23 h (fun v7 σ8 h => ?_)
  refine GC.putr 7 3 rfl (by decide) (by decide) (Or.inr ⟨_, rfl⟩) fw_X7_18 (Or.inl rfl) (Or.inr ⟨rfl, rfl, rfl⟩) dX7_init_25 h (fun σ9 h => ?_)
  refine GC.aload_n 0 dX7_init_28 rfl ?_
  refine GoC.bipush 16 dX7_init_29 (by decide) ?_
  refine GC.newI ac_int dX7_init_31 h (fun v10 σ11 h => ?_)
  refine GC.putr 7 4 rfl (by decide) (by decide) (Or.inr ⟨_, rfl⟩) fw_X7_21 (Or.inl rfl) (Or.inr ⟨rfl, rfl, rfl⟩) dX7_init_33 h (fun σ12 h => ?_)
  refine GC.aload_n 0 dX7_init_36 rfl ?_
  refine GoC.iconst 0 dX7_init_37 (by decide) ?_
  refine GC.puti 7 6 rfl (by decide) (by decide) (rfl) fw_X7_24 (Or.inl rfl) (Or.inl rfl) dX7_init_38 h (fun σ13 h => ?_)
  refine GC.aload_n 0 dX7_init_41 rfl ?_
  refine GoC.iconst 4 dX7_init_42 (by decide) ?_
  refine GC.puti 7 7 rfl (by decide) (by decide) (rfl) fw_X7_28 (Or.inl rfl) (Or.inl rfl) dX7_init_43 h (fun σ14 h => ?_)
  refine GC.aload_n 0 dX7_init_46 rfl ?_
  refine GC.new 12 rfl cl_X7_31 is_Jx4a65c ii_Jx4a65c dX7_init_47 h (fun v15 σ16 h => ?_)
  refine GoC.dup dX7_init_50 (G.rv_cat _) ?_
  obtain ⟨_, h0, h⟩ := Option.bind_eq_some_iff.mp h
  obtain ⟨σ17, hq, h⟩ := Option.bind_eq_some_iff.mp h
  refine GC.calliV (rest := [G.rv v15, G.rv x0]) (nz_ne h0) [] dX7_init_51 kk_X7_33 rfl km_Jx4a65c_init_da8c8 (ktJx4a65c_init_da8c8 _ _ hq) rfl rfl (Nat.le_of_ble_eq_true rfl) (Nat.le_of_ble_eq_true rfl) ⟨G.rv_cat _, G.rv_cat _, trivial⟩ (Nat.le_of_ble_eq_true rfl) ?_
  refine GC.putr 7 8 rfl (by decide) (by decide) (Or.inl ⟨_, rfl⟩) fw_X7_34 (Or.inl rfl) (Or.inr ⟨rfl, rfl, rfl⟩) dX7_init_54 h (fun σ18 h => ?_)
  refine GC.aload_n 0 dX7_init_57 rfl ?_
  refine GoC.iconst 1 dX7_init_58 (by decide) ?_
  refine GC.puti 7 9 rfl (by decide) (by decide) (rfl) fw_X7_38 (Or.inl rfl) (Or.inl rfl) dX7_init_59 h (fun σ19 h => ?_)
  refine GC.aload_n 0 dX7_init_62 rfl ?_
  refine GC.getr 7 8 rfl (by decide) (by decide) fw_X7_34 (Or.inl rfl) dX7_init_63 h (fun v20 h => ?_)
  refine GC.new 3 rfl cl_X7_41 is_X3 ii_X3 dX7_init_66 h (fun v21 σ22 h => ?_)
  refine GoC.dup dX7_init_69 (G.rv_cat _) ?_
  obtain ⟨_, h0, h⟩ := Option.bind_eq_some_iff.mp h
  obtain ⟨σ23, hq, h⟩ := Option.bind_eq_some_iff.mp h
  refine GC.callnV (rest := [G.rv v21, G.rv v20]) (host := RX11) (nz_ne h0) [] dX7_init_70 (fun s q => q.2.2.2.2.1) kc_X3_init.1 kc_X3_init.2 (by decide +kernel) rfl km_X3_init (ktX3_init _ _ hq) rfl rfl (Nat.le_of_ble_eq_true rfl) (Nat.le_of_ble_eq_true rfl) ⟨G.rv_cat _, G.rv_cat _, trivial⟩ (Nat.le_of_ble_eq_true rfl) ?_
  obtain ⟨h0, h⟩ := ckd_some h
  obtain ⟨v24, σ25, hq, h⟩ := bd2_some h
  refine GC.callvI (rest := []) 12 rfl h0 rfl [G.rv v21] dX7_init_73 kk_X7_44 km_Jx4a65c_add_9ea2d.1 km_Jx4a65c_add_9ea2d.2 (ktJx4a65c_add_9ea2d _ _ _ hq) rfl rfl (Nat.le_of_ble_eq_true rfl) (Nat.le_of_ble_eq_true rfl) trivial (Nat.le_of_ble_eq_true rfl) ?_
  refine GoC.pop dX7_init_76 (rfl) ?_
  cases h
  exact GoC.vret dX7_init_77 rfl
set_option maxRecDepth 20000 in
theorem ktX7_init {l : Launch} {G : Gt} {σ : Hp} (x0 : Nat) : ∀ Z, kX7_init σ x0 = some Z → MtC l G yX7_init cX7_init 1 none 7 179 [G.rv x0] σ none Z := fun Z h => MtC.at (by decide +kernel) ⟨G.rv_cat _, trivial⟩ (Nat.le_of_ble_eq_true rfl) (ksX7_init x0 h)
/-! X4_init -/
def kX4_init (σ : Hp) (x0 : Nat) : Option (Hp) := (nz x0).bind (fun _ => bd2 (nwO σ 12 3) (fun v1 σ2 => (nz v1).bind (fun _ => (kJx4a65c_init_da8c8 σ2 v1).bind (fun σ3 => (pfr σ3 14 400 x0 v1).bind (fun σ4 => bd2 (nwO σ4 12 3) (fun v5 σ6 => (nz v5).bind (fun _ => (kJx4a65c_init_da8c8 σ6 v5).bind (fun σ7 => (pfr σ7 14 401 x0 v5).bind (fun σ8 => bd2 (nwO σ8 12 3) (fun v9 σ10 => (nz v9).bind (fun _ => (kJx4a65c_init_da8c8 σ10 v9).bind (fun σ11 => (pfr σ11 14 402 x0 v9).bind (fun σ12 => bd2 (nwO σ12 7 13) (fun v13 σ14 => (nz v13).bind (fun _ => (kX7_init σ14 v13).bind (fun σ15 => (pfr σ15 14 403 x0 v13).bind (fun σ16 => some σ16)))))))))))))))))
set_option maxRecDepth 20000 in
theorem ksX4_init {l : Launch} {G : Gt} {n0 u0 : Nat} {σ : Hp} {Z : Hp} (x0 : Nat) (h : kX4_init σ x0 = some Z) : GoC l G RX4 "<init>" cX4_init 1 none 8 199 n0 u0 none Z 0 [(0, G.rv x0)] [] σ := by
  unfold kX4_init at h
  refine GC.aload_n 0 dX4_init_0 rfl ?_
  obtain ⟨_, h0, h⟩ := Option.bind_eq_some_iff.mp h
  refine GC.oinit (nz_ne h0) oi_X4_3 oi_inst oi_code dX4_init_1 (Nat.le_of_ble_eq_true rfl) trivial (Nat.le_of_ble_eq_true rfl) ?_
  refine GC.aload_n 0 dX4_init_4 rfl ?_
  refine GC.new 12 rfl cl_X4_9 is_Jx4a65c ii_Jx4a65c dX4_init_5 h (fun v1 σ2 h => ?_)
  refine GoC.dup dX4_init_8 (G.rv_cat _) ?_
  obtain ⟨_, h0, h⟩ := Option.bind_eq_some_iff.mp h
  obtain ⟨σ3, hq, h⟩ := Option.bind_eq_some_iff.mp h
  refine GC.calliV (rest := [G.rv v1, G.rv x0]) (nz_ne h0) [] dX4_init_9 kk_X4_11 rfl km_Jx4a65c_init_da8c8 (ktJx4a65c_init_da8c8 _ _ hq) rfl rfl (Nat.le_of_ble_eq_true rfl) (Nat.le_of_ble_eq_true rfl) ⟨G.rv_cat _, G.rv_cat _, trivial⟩ (Nat.le_of_ble_eq_true rfl) ?_
  refine GC.putr 4 0 rfl (by decide) (by decide) (Or.inl ⟨_, rfl⟩) fw_X4_12 (Or.inl rfl) (Or.inr ⟨rfl, rfl, rfl⟩) dX4_init_12 h (fun σ4 h => ?_)
  refine GC.aload_n 0 dX4_init_15 rfl ?_
  refine GC.new 12 rfl cl_X4_9 is_Jx4a65c ii_Jx4a65c dX4_init_16 h (fun v5 σ6 h => ?_)
  refine GoC.dup dX4_init_19 (G.rv_cat _) ?_
  obtain ⟨_, h0, h⟩ := Option.bind_eq_some_iff.mp h
  obtain ⟨σ7, hq, h⟩ := Option.bind_eq_some_iff.mp h
  refine GC.calliV (rest := [G.rv v5, G.rv x0]) (nz_ne h0) [] dX4_init_20 kk_X4_11 rfl km_Jx4a65c_init_da8c8 (ktJx4a65c_init_da8c8 _ _ hq) rfl rfl (Nat.le_of_ble_eq_true rfl) (Nat.le_of_ble_eq_true rfl) ⟨G.rv_cat _, G.rv_cat _, trivial⟩ (Nat.le_of_ble_eq_true rfl) ?_
  refine GC.putr 4 1 rfl (by decide) (by decide) (Or.inl ⟨_, rfl⟩) fw_X4_18 (Or.inl rfl) (Or.inr ⟨rfl, rfl, rfl⟩) dX4_init_23 h (fun σ8 h => ?_)
  refine GC.aload_n 0 dX4_init_26 rfl ?_
  refine GC.new 12 rfl cl_X4_9 is_Jx4a65c ii_Jx4a65c dX4_init_27 h (fun v9 σ10 h => ?_)
  refine GoC.dup dX4_init_30 (G.rv_cat _) ?_
  obtain ⟨_, h0, h⟩ := Option.bind_eq_some_iff.mp h
  obtain ⟨σ11, hq, h⟩ := Option.bind_eq_some_iff.mp h
  refine GC.calliV (rest := [G.rv v9, G.rv x0]) (nz_ne h0) [] dX4_init_31 kk_X4_11 rfl km_Jx4a65c_init_da8c8 (ktJx4a65c_init_da8c8 _ _ hq) rfl rfl (Nat.le_of_ble_eq_true rfl) (Nat.le_of_ble_eq_true rfl) ⟨G.rv_cat _, G.rv_cat _, trivial⟩ (Nat.le_of_ble_eq_true rfl) ?_
  refine GC.putr 4 2 rfl (by decide) (by decide) (Or.inl ⟨_, rfl⟩) fw_X4_21 (Or.inl rfl) (Or.inr ⟨rfl, rfl, rfl⟩) dX4_init_34 h (fun σ12 h => ?_)
  refine GC.aload_n 0 dX4_init_37 rfl ?_
  refine GC.new 7 rfl cl_X4_24 is_X7 ii_X7 dX4_init_38 h (fun v13 σ14 h => ?_)
  refine GoC.dup dX4_init_41 (G.rv_cat _) ?_
  obtain ⟨_, h0, h⟩ := Option.bind_eq_some_iff.mp h
  obtain ⟨σ15, hq, h⟩ := Option.bind_eq_some_iff.mp h
  refine GC.calliV (rest := [G.rv v13, G.rv x0]) (nz_ne h0) [] dX4_init_42 kk_X4_26 rfl km_X7_init (ktX7_init _ _ hq) rfl rfl (Nat.le_of_ble_eq_true rfl) (Nat.le_of_ble_eq_true rfl) ⟨G.rv_cat _, G.rv_cat _, trivial⟩ (Nat.le_of_ble_eq_true rfl) ?_
  refine GC.putr 4 3 rfl (by decide) (by decide) (Or.inl ⟨_, rfl⟩) fw_X4_27 (Or.inl rfl) (Or.inr ⟨rfl, rfl, rfl⟩) dX4_init_45 h (fun σ16 h => ?_)
  cases h
  exact GoC.vret dX4_init_48 rfl
set_option maxRecDepth 20000 in
theorem ktX4_init {l : Launch} {G : Gt} {σ : Hp} (x0 : Nat) : ∀ Z, kX4_init σ x0 = some Z → MtC l G yX4_init cX4_init 1 none 8 199 [G.rv x0] σ none Z := fun Z h => MtC.at (by decide +kernel) ⟨G.rv_cat _, trivial⟩ (Nat.le_of_ble_eq_true rfl) (ksX4_init x0 h)
/-! Jx4a65c_size_8abf5 -/
def kJx4a65c_size_8abf5 (σ : Hp) (x0 : Nat) : Option (Int32) := (gfi σ 22 1202 x0).bind (fun v1 => some v1)
set_option maxRecDepth 20000 in
theorem ksJx4a65c_size_8abf5 {l : Launch} {G : Gt} {n0 u0 : Nat} {σ : Hp} {Z : Int32} (x0 : Nat) (h : kJx4a65c_size_8abf5 σ x0 = some Z) : GoC l G RJx4a65c "size" cJx4a65c_size_8abf5 1 (some .int) 0 0 n0 u0 (some (.int Z)) σ 0 [(0, G.rv x0)] [] σ := by
  unfold kJx4a65c_size_8abf5 at h
  refine GC.aload_n 0 dJx4a65c_size_8abf5_0 rfl ?_
  refine GC.geti 12 2 rfl (by decide) (by decide) fw_Jx4a65c_48 (Or.inl rfl) dJx4a65c_size_8abf5_1 h (fun v1 h => ?_)
  cases h
  exact GoC.iret dJx4a65c_size_8abf5_4 rfl
set_option maxRecDepth 20000 in
theorem ktJx4a65c_size_8abf5 {l : Launch} {G : Gt} {σ : Hp} (x0 : Nat) : ∀ Z, kJx4a65c_size_8abf5 σ x0 = some Z → MtC l G yJx4a65c_size_8abf5 cJx4a65c_size_8abf5 1 (some .int) 0 0 [G.rv x0] σ (some (.int Z)) σ := fun Z h => MtC.at (by decide +kernel) ⟨G.rv_cat _, trivial⟩ (Nat.le_of_ble_eq_true rfl) (ksJx4a65c_size_8abf5 x0 h)
/-! X4_countSteps -/
def kX4_countSteps (σ : Hp) (x0 : Nat) : Option (Int32) := (gfr σ 14 401 x0).bind (fun v1 => ckd σ v1 22 ((kJx4a65c_size_8abf5 σ v1).bind (fun v2 => some v2)))
set_option maxRecDepth 20000 in
theorem ksX4_countSteps {l : Launch} {G : Gt} {n0 u0 : Nat} {σ : Hp} {Z : Int32} (x0 : Nat) (h : kX4_countSteps σ x0 = some Z) : GoC l G RX4 "countSteps" cX4_countSteps 1 (some .int) 1 20 n0 u0 (some (.int Z)) σ 0 [(0, G.rv x0)] [] σ := by
  unfold kX4_countSteps at h
  refine GC.aload_n 0 dX4_countSteps_0 rfl ?_
  refine GC.getr 4 1 rfl (by decide) (by decide) fw_X4_18 (Or.inl rfl) dX4_countSteps_1 h (fun v1 h => ?_)
  obtain ⟨h0, h⟩ := ckd_some h
  obtain ⟨v2, hq, h⟩ := Option.bind_eq_some_iff.mp h
  refine GC.callvI (rest := []) 12 rfl h0 rfl [] dX4_countSteps_4 kk_X4_31 km_Jx4a65c_size_8abf5.1 km_Jx4a65c_size_8abf5.2 (ktJx4a65c_size_8abf5 _ _ hq) rfl rfl (Nat.le_of_ble_eq_true rfl) (Nat.le_of_ble_eq_true rfl) trivial (Nat.le_of_ble_eq_true rfl) ?_
  cases h
  exact GoC.iret dX4_countSteps_7 rfl
set_option maxRecDepth 20000 in
theorem ktX4_countSteps {l : Launch} {G : Gt} {σ : Hp} (x0 : Nat) : ∀ Z, kX4_countSteps σ x0 = some Z → MtC l G yX4_countSteps cX4_countSteps 1 (some .int) 1 20 [G.rv x0] σ (some (.int Z)) σ := fun Z h => MtC.at (by decide +kernel) ⟨G.rv_cat _, trivial⟩ (Nat.le_of_ble_eq_true rfl) (ksX4_countSteps x0 h)
/-! J3_checkIndex_8e157 -/
def kJ3_checkIndex_8e157_9 (σ : Hp)  (x0 : Int32) (x1 : Int32) (x2 : Value) : Option (Int32) := none
def kJ3_checkIndex_8e157 (σ : Hp) (x0 : Int32) (x1 : Int32) (x2 : Value) : Option (Int32) := if x0 < 0 then kJ3_checkIndex_8e157_9 σ x0 x1 x2 else if x0 < x1 then some x0 else kJ3_checkIndex_8e157_9 σ x0 x1 x2
set_option maxRecDepth 20000 in
theorem ksJ3_checkIndex_8e157_9 {l : Launch} {G : Gt} {n0 u0 : Nat} {σ : Hp} {Z : Int32} (x0 : Int32) (x1 : Int32) (x2 : Value) (h : kJ3_checkIndex_8e157_9 σ x0 x1 x2 = some Z) : GoC l G RJ3 "checkIndex" cJ3_checkIndex_8e157 3 (some .int) 0 0 n0 u0 (some (.int Z)) σ 9 [(0, .int x0), (1, .int x1), (2, x2)] [] σ := by
  unfold kJ3_checkIndex_8e157_9 at h
  cases h
set_option maxRecDepth 20000 in
theorem ksJ3_checkIndex_8e157 {l : Launch} {G : Gt} {n0 u0 : Nat} {σ : Hp} {Z : Int32} (x0 : Int32) (x1 : Int32) (x2 : Value) (hcv : x2.category = 1) (h : kJ3_checkIndex_8e157 σ x0 x1 x2 = some Z) : GoC l G RJ3 "checkIndex" cJ3_checkIndex_8e157 3 (some .int) 0 0 n0 u0 (some (.int Z)) σ 0 [(0, .int x0), (1, .int x1), (2, x2)] [] σ := by
  unfold kJ3_checkIndex_8e157 at h
  refine GoC.iload_n 0 dJ3_checkIndex_8e157_0 rfl ?_
  refine GoC.if_lt 9 dJ3_checkIndex_8e157_1 (by decide) h (fun h => ?_) (fun h => ?_)
  · exact ksJ3_checkIndex_8e157_9 _ _ _ h
  · refine GoC.iload_n 0 dJ3_checkIndex_8e157_4 rfl ?_
    refine GoC.iload_n 1 dJ3_checkIndex_8e157_5 rfl ?_
    refine GoC.icmp_lt 16 dJ3_checkIndex_8e157_6 (by decide) h (fun h => ?_) (fun h => ?_)
    · refine GoC.iload_n 0 dJ3_checkIndex_8e157_16 rfl ?_
      cases h
      exact GoC.iret dJ3_checkIndex_8e157_17 rfl
    · exact ksJ3_checkIndex_8e157_9 _ _ _ h
set_option maxRecDepth 20000 in
theorem ktJ3_checkIndex_8e157 {l : Launch} {G : Gt} {σ : Hp} (x0 : Int32) (x1 : Int32) (x2 : Value) (hcv : x2.category = 1) : ∀ Z, kJ3_checkIndex_8e157 σ x0 x1 x2 = some Z → MtC l G yJ3_checkIndex_8e157 cJ3_checkIndex_8e157 3 (some .int) 0 0 [.int x0, .int x1, x2] σ (some (.int Z)) σ := fun Z h => MtC.at (by decide +kernel) ⟨rfl, rfl, hcv, trivial⟩ (Nat.le_of_ble_eq_true rfl) (ksJ3_checkIndex_8e157 x0 x1 x2 hcv h)
/-! J15_checkIndex_7cf53 -/
def kJ15_checkIndex_7cf53 (σ : Hp) (x0 : Int32) (x1 : Int32) : Option (Int32) := (kJ3_checkIndex_8e157 σ x0 x1 .null).bind (fun v1 => some v1)
set_option maxRecDepth 20000 in
theorem ksJ15_checkIndex_7cf53 {l : Launch} {G : Gt} {n0 u0 : Nat} {σ : Hp} {Z : Int32} (x0 : Int32) (x1 : Int32) (h : kJ15_checkIndex_7cf53 σ x0 x1 = some Z) : GoC l G RJ15 "checkIndex" cJ15_checkIndex_7cf53 2 (some .int) 1 22 n0 u0 (some (.int Z)) σ 0 [(0, .int x0), (1, .int x1)] [] σ := by
  unfold kJ15_checkIndex_7cf53 at h
  refine GoC.iload_n 0 dJ15_checkIndex_7cf53_0 rfl ?_
  refine GoC.iload_n 1 dJ15_checkIndex_7cf53_1 rfl ?_
  refine GC.null dJ15_checkIndex_7cf53_2 ?_
  obtain ⟨v1, hq, h⟩ := Option.bind_eq_some_iff.mp h
  refine GC.callsI (rest := []) [.int x0, .int x1, G.rv 0] dJ15_checkIndex_7cf53_3 kk_J15_105 km_J3_checkIndex_8e157 (ktJ3_checkIndex_8e157 _ _ _ rfl _ hq) rfl rfl (Nat.le_of_ble_eq_true rfl) (Nat.le_of_ble_eq_true rfl) trivial (Nat.le_of_ble_eq_true rfl) ?_
  cases h
  exact GoC.iret dJ15_checkIndex_7cf53_6 rfl
set_option maxRecDepth 20000 in
theorem ktJ15_checkIndex_7cf53 {l : Launch} {G : Gt} {σ : Hp} (x0 : Int32) (x1 : Int32) : ∀ Z, kJ15_checkIndex_7cf53 σ x0 x1 = some Z → MtC l G yJ15_checkIndex_7cf53 cJ15_checkIndex_7cf53 2 (some .int) 1 22 [.int x0, .int x1] σ (some (.int Z)) σ := fun Z h => MtC.at (by decide +kernel) ⟨rfl, rfl, trivial⟩ (Nat.le_of_ble_eq_true rfl) (ksJ15_checkIndex_7cf53 x0 x1 h)
/-! Jx4a65c_elementData_915e3 -/
def kJx4a65c_elementData_915e3 (σ : Hp) (x0 : Nat) (x1 : Int32) : Option (Nat) := (gfr σ 22 1201 x0).bind (fun v1 => (rld σ v1 x1).bind (fun v2 => some v2))
set_option maxRecDepth 20000 in
theorem ksJx4a65c_elementData_915e3 {l : Launch} {G : Gt} {n0 u0 : Nat} {σ : Hp} {Z : Nat} (x0 : Nat) (x1 : Int32) (h : kJx4a65c_elementData_915e3 σ x0 x1 = some Z) : GoC l G RJx4a65c "elementData" cJx4a65c_elementData_915e3 2 (some (.object "java/lang/Object")) 0 0 n0 u0 (some (G.rv Z)) σ 0 [(0, G.rv x0), (1, .int x1)] [] σ := by
  unfold kJx4a65c_elementData_915e3 at h
  refine GC.aload_n 0 dJx4a65c_elementData_915e3_0 rfl ?_
  refine GC.getr 12 1 rfl (by decide) (by decide) fw_Jx4a65c_9 (Or.inl rfl) dJx4a65c_elementData_915e3_1 h (fun v1 h => ?_)
  refine GoC.iload_n 1 dJx4a65c_elementData_915e3_4 rfl ?_
  refine GC.aald dJx4a65c_elementData_915e3_5 h (fun v2 h => ?_)
  cases h
  exact GC.aret dJx4a65c_elementData_915e3_6 rfl (Or.inl ⟨_, rfl⟩)
set_option maxRecDepth 20000 in
theorem ktJx4a65c_elementData_915e3 {l : Launch} {G : Gt} {σ : Hp} (x0 : Nat) (x1 : Int32) : ∀ Z, kJx4a65c_elementData_915e3 σ x0 x1 = some Z → MtC l G yJx4a65c_elementData_915e3 cJx4a65c_elementData_915e3 2 (some (.object "java/lang/Object")) 0 0 [G.rv x0, .int x1] σ (some (G.rv Z)) σ := fun Z h => MtC.at (by decide +kernel) ⟨G.rv_cat _, rfl, trivial⟩ (Nat.le_of_ble_eq_true rfl) (ksJx4a65c_elementData_915e3 x0 x1 h)
/-! Jx4a65c_get_915e3 -/
def kJx4a65c_get_915e3 (σ : Hp) (x0 : Nat) (x1 : Int32) : Option (Nat) := (gfi σ 22 1202 x0).bind (fun v1 => (kJ15_checkIndex_7cf53 σ x1 v1).bind (fun v2 => ckd σ x0 22 ((kJx4a65c_elementData_915e3 σ x0 x1).bind (fun v3 => some v3))))
set_option maxRecDepth 20000 in
theorem ksJx4a65c_get_915e3 {l : Launch} {G : Gt} {n0 u0 : Nat} {σ : Hp} {Z : Nat} (x0 : Nat) (x1 : Int32) (h : kJx4a65c_get_915e3 σ x0 x1 = some Z) : GoC l G RJx4a65c "get" cJx4a65c_get_915e3 2 (some (.object "java/lang/Object")) 2 43 n0 u0 (some (G.rv Z)) σ 0 [(0, G.rv x0), (1, .int x1)] [] σ := by
  unfold kJx4a65c_get_915e3 at h
  refine GoC.iload_n 1 dJx4a65c_get_915e3_0 rfl ?_
  refine GC.aload_n 0 dJx4a65c_get_915e3_1 rfl ?_
  refine GC.geti 12 2 rfl (by decide) (by decide) fw_Jx4a65c_48 (Or.inl rfl) dJx4a65c_get_915e3_2 h (fun v1 h => ?_)
  obtain ⟨v2, hq, h⟩ := Option.bind_eq_some_iff.mp h
  refine GC.callsI (rest := []) [.int x1, .int v1] dJx4a65c_get_915e3_5 kk_Jx4a65c_118 km_J15_checkIndex_7cf53 (ktJ15_checkIndex_7cf53 _ _ _ hq) rfl rfl (Nat.le_of_ble_eq_true rfl) (Nat.le_of_ble_eq_true rfl) trivial (Nat.le_of_ble_eq_true rfl) ?_
  refine GoC.pop dJx4a65c_get_915e3_8 (rfl) ?_
  refine GC.aload_n 0 dJx4a65c_get_915e3_9 rfl ?_
  refine GoC.iload_n 1 dJx4a65c_get_915e3_10 rfl ?_
  obtain ⟨h0, h⟩ := ckd_some h
  obtain ⟨v3, hq, h⟩ := Option.bind_eq_some_iff.mp h
  refine GC.callvR (rest := []) 12 rfl h0 rfl [.int x1] dJx4a65c_get_915e3_11 kk_Jx4a65c_123 km_Jx4a65c_elementData_915e3.1 km_Jx4a65c_elementData_915e3.2 (ktJx4a65c_elementData_915e3 _ _ _ hq) rfl rfl (Nat.le_of_ble_eq_true rfl) (Nat.le_of_ble_eq_true rfl) trivial (Nat.le_of_ble_eq_true rfl) ?_
  cases h
  exact GC.aret dJx4a65c_get_915e3_14 rfl (Or.inl ⟨_, rfl⟩)
set_option maxRecDepth 20000 in
theorem ktJx4a65c_get_915e3 {l : Launch} {G : Gt} {σ : Hp} (x0 : Nat) (x1 : Int32) : ∀ Z, kJx4a65c_get_915e3 σ x0 x1 = some Z → MtC l G yJx4a65c_get_915e3 cJx4a65c_get_915e3 2 (some (.object "java/lang/Object")) 2 43 [G.rv x0, .int x1] σ (some (G.rv Z)) σ := fun Z h => MtC.at (by decide +kernel) ⟨G.rv_cat _, rfl, trivial⟩ (Nat.le_of_ble_eq_true rfl) (ksJx4a65c_get_915e3 x0 x1 h)
/-! Jx4a65c_fastRemove_b59b0 -/
def kJx4a65c_fastRemove_b59b0_34  (x0 : Nat) (x1 : Nat) (x3 : Int32) (σ : Hp) : Option (Hp) := (pfi σ 22 1202 x0 x3).bind (fun σ1 => (rst σ1 x1 x3 0).bind (fun σ2 => some σ2))
def kJx4a65c_fastRemove_b59b0 (σ : Hp) (x0 : Nat) (x1 : Nat) (x2 : Int32) : Option (Hp) := (gfi σ 22 1200 x0).bind (fun v3 => (pfi σ 22 1200 x0 (v3 + 1)).bind (fun σ4 => (gfi σ4 22 1202 x0).bind (fun v5 => if (v5 - 1) ≤ x2 then kJx4a65c_fastRemove_b59b0_34 x0 x1 (v5 - 1) σ4 else (cpR σ4 x1 (x2 + 1) x1 x2 ((v5 - 1) - x2)).bind (fun σ6 => kJx4a65c_fastRemove_b59b0_34 x0 x1 (v5 - 1) σ6))))
set_option maxRecDepth 20000 in
theorem ksJx4a65c_fastRemove_b59b0_34 {l : Launch} {G : Gt} {n0 u0 : Nat} {Z : Hp} (x0 : Nat) (x1 : Nat) (x3 : Int32) (σ : Hp) (h : kJx4a65c_fastRemove_b59b0_34 x0 x1 x3 σ = some Z) : GoC l G RJx4a65c "fastRemove" cJx4a65c_fastRemove_b59b0 4 none 1 48 n0 u0 none Z 34 [(0, G.rv x0), (1, G.rv x1), (3, .int x3)] [] σ := by
  unfold kJx4a65c_fastRemove_b59b0_34 at h
  refine GC.aload_n 1 dJx4a65c_fastRemove_b59b0_34 rfl ?_
  refine GC.aload_n 0 dJx4a65c_fastRemove_b59b0_35 rfl ?_
  refine GoC.iload_n 2 dJx4a65c_fastRemove_b59b0_36 rfl ?_
  refine GC.dup_x1 dJx4a65c_fastRemove_b59b0_37 (rfl) (G.rv_cat _) ?_
  refine GC.puti 12 2 rfl (by decide) (by decide) (rfl) fw_Jx4a65c_48 (Or.inl rfl) (Or.inl rfl) dJx4a65c_fastRemove_b59b0_38 h (fun σ1 h => ?_)
  refine GC.null dJx4a65c_fastRemove_b59b0_41 ?_
  refine GC.aast dJx4a65c_fastRemove_b59b0_42 h (fun σ2 h => ?_)
  cases h
  exact GoC.vret dJx4a65c_fastRemove_b59b0_43 rfl
set_option maxRecDepth 20000 in
theorem ksJx4a65c_fastRemove_b59b0 {l : Launch} {G : Gt} {n0 u0 : Nat} {σ : Hp} {Z : Hp} (x0 : Nat) (x1 : Nat) (x2 : Int32) (h : kJx4a65c_fastRemove_b59b0 σ x0 x1 x2 = some Z) : GoC l G RJx4a65c "fastRemove" cJx4a65c_fastRemove_b59b0 4 none 1 48 n0 u0 none Z 0 [(0, G.rv x0), (1, G.rv x1), (2, .int x2)] [] σ := by
  unfold kJx4a65c_fastRemove_b59b0 at h
  refine GC.aload_n 0 dJx4a65c_fastRemove_b59b0_0 rfl ?_
  refine GoC.dup dJx4a65c_fastRemove_b59b0_1 (G.rv_cat _) ?_
  refine GC.geti 12 0 rfl (by decide) (by decide) fw_Jx4a65c_63 (Or.inr fs_Jx4a65c_63) dJx4a65c_fastRemove_b59b0_2 h (fun v3 h => ?_)
  refine GoC.iconst 1 dJx4a65c_fastRemove_b59b0_5 (by decide) ?_
  refine GoC.iadd dJx4a65c_fastRemove_b59b0_6 ?_
  refine GC.puti 12 0 rfl (by decide) (by decide) (rfl) fw_Jx4a65c_63 (Or.inr fs_Jx4a65c_63) (Or.inl rfl) dJx4a65c_fastRemove_b59b0_7 h (fun σ4 h => ?_)
  refine GC.aload_n 0 dJx4a65c_fastRemove_b59b0_10 rfl ?_
  refine GC.geti 12 2 rfl (by decide) (by decide) fw_Jx4a65c_48 (Or.inl rfl) dJx4a65c_fastRemove_b59b0_11 h (fun v5 h => ?_)
  refine GoC.iconst 1 dJx4a65c_fastRemove_b59b0_14 (by decide) ?_
  refine GoC.isub dJx4a65c_fastRemove_b59b0_15 ?_
  refine GoC.dup dJx4a65c_fastRemove_b59b0_16 (rfl) ?_
  refine GoC.istore_n [(0, G.rv x0), (1, G.rv x1), (2, .int x2), (3, .int (v5 - 1))] dJx4a65c_fastRemove_b59b0_17 (by decide) rfl ?_
  refine GoC.iload_n 2 dJx4a65c_fastRemove_b59b0_18 rfl ?_
  refine GoC.icmp_le 34 dJx4a65c_fastRemove_b59b0_19 (by decide) h (fun h => ?_) (fun h => ?_)
  · refine GoC.sub [0, 1, 3] rfl ?_
    exact ksJx4a65c_fastRemove_b59b0_34 _ _ _ _ h
  · refine GC.aload_n 1 dJx4a65c_fastRemove_b59b0_22 rfl ?_
    refine GoC.iload_n 2 dJx4a65c_fastRemove_b59b0_23 rfl ?_
    refine GoC.iconst 1 dJx4a65c_fastRemove_b59b0_24 (by decide) ?_
    refine GoC.iadd dJx4a65c_fastRemove_b59b0_25 ?_
    refine GC.aload_n 1 dJx4a65c_fastRemove_b59b0_26 rfl ?_
    refine GoC.iload_n 2 dJx4a65c_fastRemove_b59b0_27 rfl ?_
    refine GoC.iload_n 3 dJx4a65c_fastRemove_b59b0_28 rfl ?_
    refine GoC.iload_n 2 dJx4a65c_fastRemove_b59b0_29 rfl ?_
    refine GoC.isub dJx4a65c_fastRemove_b59b0_30 ?_
    refine GC.copyR ac_Jx4a65c_112 ac_nat ac_stat ac_ini dJx4a65c_fastRemove_b59b0_31 (Nat.le_of_ble_eq_true rfl) trivial (Nat.le_of_ble_eq_true (by decide)) h (fun σ6 h => ?_)
    refine GoC.sub [0, 1, 3] rfl ?_
    exact ksJx4a65c_fastRemove_b59b0_34 _ _ _ _ h
set_option maxRecDepth 20000 in
theorem ktJx4a65c_fastRemove_b59b0 {l : Launch} {G : Gt} {σ : Hp} (x0 : Nat) (x1 : Nat) (x2 : Int32) : ∀ Z, kJx4a65c_fastRemove_b59b0 σ x0 x1 x2 = some Z → MtC l G yJx4a65c_fastRemove_b59b0 cJx4a65c_fastRemove_b59b0 4 none 1 48 [G.rv x0, G.rv x1, .int x2] σ none Z := fun Z h => MtC.at (by decide +kernel) ⟨G.rv_cat _, G.rv_cat _, rfl, trivial⟩ (Nat.le_of_ble_eq_true rfl) (ksJx4a65c_fastRemove_b59b0 x0 x1 x2 h)
/-! Jx4a65c_remove_915e3 -/
def kJx4a65c_remove_915e3 (σ : Hp) (x0 : Nat) (x1 : Int32) : Option (Nat × Hp) := (gfi σ 22 1202 x0).bind (fun v1 => (kJ15_checkIndex_7cf53 σ x1 v1).bind (fun v2 => (gfr σ 22 1201 x0).bind (fun v3 => (rld σ v3 x1).bind (fun v4 => ckd σ x0 22 ((kJx4a65c_fastRemove_b59b0 σ x0 v3 x1).bind (fun σ5 => some (v4, σ5)))))))
set_option maxRecDepth 20000 in
theorem ksJx4a65c_remove_915e3 {l : Launch} {G : Gt} {n0 u0 : Nat} {σ : Hp} {Z : Nat × Hp} (x0 : Nat) (x1 : Int32) (h : kJx4a65c_remove_915e3 σ x0 x1 = some Z) : GoC l G RJx4a65c "remove" cJx4a65c_remove_915e3 4 (some (.object "java/lang/Object")) 2 71 n0 u0 (some (G.rv Z.1)) Z.2 0 [(0, G.rv x0), (1, .int x1)] [] σ := by
  unfold kJx4a65c_remove_915e3 at h
  refine GoC.iload_n 1 dJx4a65c_remove_915e3_0 rfl ?_
  refine GC.aload_n 0 dJx4a65c_remove_915e3_1 rfl ?_
  refine GC.geti 12 2 rfl (by decide) (by decide) fw_Jx4a65c_48 (Or.inl rfl) dJx4a65c_remove_915e3_2 h (fun v1 h => ?_)
  obtain ⟨v2, hq, h⟩ := Option.bind_eq_some_iff.mp h
  refine GC.callsI (rest := []) [.int x1, .int v1] dJx4a65c_remove_915e3_5 kk_Jx4a65c_118 km_J15_checkIndex_7cf53 (ktJ15_checkIndex_7cf53 _ _ _ hq) rfl rfl (Nat.le_of_ble_eq_true rfl) (Nat.le_of_ble_eq_true rfl) trivial (Nat.le_of_ble_eq_true rfl) ?_
  refine GoC.pop dJx4a65c_remove_915e3_8 (rfl) ?_
  refine GC.aload_n 0 dJx4a65c_remove_915e3_9 rfl ?_
  refine GC.getr 12 1 rfl (by decide) (by decide) fw_Jx4a65c_9 (Or.inl rfl) dJx4a65c_remove_915e3_10 h (fun v3 h => ?_)
  refine GC.astore_n [(0, G.rv x0), (1, .int x1), (2, G.rv v3)] dJx4a65c_remove_915e3_13 (by decide) rfl ?_
  refine GC.aload_n 2 dJx4a65c_remove_915e3_14 rfl ?_
  refine GoC.iload_n 1 dJx4a65c_remove_915e3_15 rfl ?_
  refine GC.aald dJx4a65c_remove_915e3_16 h (fun v4 h => ?_)
  refine GC.astore_n [(0, G.rv x0), (1, .int x1), (2, G.rv v3), (3, G.rv v4)] dJx4a65c_remove_915e3_17 (by decide) rfl ?_
  refine GC.aload_n 0 dJx4a65c_remove_915e3_18 rfl ?_
  refine GC.aload_n 2 dJx4a65c_remove_915e3_19 rfl ?_
  refine GoC.iload_n 1 dJx4a65c_remove_915e3_20 rfl ?_
  obtain ⟨h0, h⟩ := ckd_some h
  obtain ⟨σ5, hq, h⟩ := Option.bind_eq_some_iff.mp h
  refine GC.callvV (rest := []) 12 rfl h0 rfl [G.rv v3, .int x1] dJx4a65c_remove_915e3_21 kk_Jx4a65c_144 km_Jx4a65c_fastRemove_b59b0.1 km_Jx4a65c_fastRemove_b59b0.2 (ktJx4a65c_fastRemove_b59b0 _ _ _ _ hq) rfl rfl (Nat.le_of_ble_eq_true rfl) (Nat.le_of_ble_eq_true rfl) trivial (Nat.le_of_ble_eq_true rfl) ?_
  refine GC.aload_n 3 dJx4a65c_remove_915e3_24 rfl ?_
  cases h
  exact GC.aret dJx4a65c_remove_915e3_25 rfl (Or.inl ⟨_, rfl⟩)
set_option maxRecDepth 20000 in
theorem ktJx4a65c_remove_915e3 {l : Launch} {G : Gt} {σ : Hp} (x0 : Nat) (x1 : Int32) : ∀ Z, kJx4a65c_remove_915e3 σ x0 x1 = some Z → MtC l G yJx4a65c_remove_915e3 cJx4a65c_remove_915e3 4 (some (.object "java/lang/Object")) 2 71 [G.rv x0, .int x1] σ (some (G.rv Z.1)) Z.2 := fun Z h => MtC.at (by decide +kernel) ⟨G.rv_cat _, rfl, trivial⟩ (Nat.le_of_ble_eq_true rfl) (ksJx4a65c_remove_915e3 x0 x1 h)
/-! X4_freeState -/
def kX4_freeState_41 (k2 : Nat → Int32 → Hp → Option (Nat × Hp)) (x0 : Nat) (x1 : Int32) (σ : Hp) : Option (Nat × Hp) := k2 x0 (x1 + 1) σ
def kX4_freeState_2  : Nat → Nat → Int32 → Hp → Option (Nat × Hp)
  | 0, _, _, _ => none
  | n + 1, x0, x1, σ => (gfr σ 14 400 x0).bind (fun v1 => ckd σ v1 22 ((kJx4a65c_size_8abf5 σ v1).bind (fun v2 => if v2 ≤ x1 then bd2 (nwO σ 7 13) (fun v3 σ4 => (nz v3).bind (fun _ => (kX7_init σ4 v3).bind (fun σ5 => (gfr σ5 14 400 x0).bind (fun v6 => ckd σ5 v6 22 (bd2 (kJx4a65c_add_9ea2d σ5 v6 v3) (fun v7 σ8 => some (v3, σ8))))))) else (gfr σ 14 400 x0).bind (fun v9 => ckd σ v9 22 ((kJx4a65c_get_915e3 σ v9 x1).bind (fun v10 => ckc σ v10 17 ((gfi σ 17 711 v10).bind (fun v11 => if v11 = 0 then (gfi σ 17 712 v10).bind (fun v12 => if v12 = 0 then some (v10, σ) else kX4_freeState_41 (kX4_freeState_2 n) x0 x1 σ) else kX4_freeState_41 (kX4_freeState_2 n) x0 x1 σ))))))))
def kX4_freeState (σ : Hp) (x0 : Nat) : Option (Nat × Hp) := kX4_freeState_2 FU x0 0 σ
set_option maxRecDepth 20000 in
theorem ksX4_freeState_41 {l : Launch} {G : Gt} {n0 u0 : Nat} {Z : Nat × Hp} (k2 : Nat → Int32 → Hp → Option (Nat × Hp)) (h2 : ∀ (x0 : Nat) (x1 : Int32) (σ : Hp), k2 x0 x1 σ = some Z → GoC l G RX4 "freeState" cX4_freeState 3 (some (.object "LikePages$State")) 8 199 n0 u0 (some (G.rv Z.1)) Z.2 2 [(0, G.rv x0), (1, .int x1)] [] σ) (x0 : Nat) (x1 : Int32) (σ : Hp) (h : kX4_freeState_41 k2 x0 x1 σ = some Z) : GoC l G RX4 "freeState" cX4_freeState 3 (some (.object "LikePages$State")) 8 199 n0 u0 (some (G.rv Z.1)) Z.2 41 [(0, G.rv x0), (1, .int x1)] [] σ := by
  unfold kX4_freeState_41 at h
  refine GoC.iinc (w := 1) 1 [(0, G.rv x0), (1, .int (x1 + 1))] dX4_freeState_41 rfl (by decide) (by decide) rfl ?_
  refine GoC.goto 2 dX4_freeState_44 (by decide) ?_
  exact h2 _ _ _ h
set_option maxRecDepth 20000 in
theorem ksX4_freeState_2 {l : Launch} {G : Gt} {n0 u0 : Nat} {Z : Nat × Hp} (n : Nat) : ∀ (x0 : Nat) (x1 : Int32) (σ : Hp), kX4_freeState_2 n x0 x1 σ = some Z → GoC l G RX4 "freeState" cX4_freeState 3 (some (.object "LikePages$State")) 8 199 n0 u0 (some (G.rv Z.1)) Z.2 2 [(0, G.rv x0), (1, .int x1)] [] σ := by
  induction n with
  | zero => intro x0 x1 σ h; rw [kX4_freeState_2] at h; cases h
  | succ n ih =>
    intro x0 x1 σ h
    rw [kX4_freeState_2] at h
    refine GoC.iload_n 1 dX4_freeState_2 rfl ?_
    refine GC.aload_n 0 dX4_freeState_3 rfl ?_
    refine GC.getr 4 0 rfl (by decide) (by decide) fw_X4_12 (Or.inl rfl) dX4_freeState_4 h (fun v1 h => ?_)
    obtain ⟨h0, h⟩ := ckd_some h
    obtain ⟨v2, hq, h⟩ := Option.bind_eq_some_iff.mp h
    refine GC.callvI (rest := [.int x1]) 12 rfl h0 rfl [] dX4_freeState_7 kk_X4_31 km_Jx4a65c_size_8abf5.1 km_Jx4a65c_size_8abf5.2 (ktJx4a65c_size_8abf5 _ _ hq) rfl rfl (Nat.le_of_ble_eq_true rfl) (Nat.le_of_ble_eq_true rfl) ⟨rfl, trivial⟩ (Nat.le_of_ble_eq_true rfl) ?_
    refine GoC.icmp_ge 47 dX4_freeState_10 (by decide) h (fun h => ?_) (fun h => ?_)
    · refine GC.new 7 rfl cl_X4_24 is_X7 ii_X7 dX4_freeState_47 h (fun v3 σ4 h => ?_)
      refine GoC.dup dX4_freeState_50 (G.rv_cat _) ?_
      obtain ⟨_, h0, h⟩ := Option.bind_eq_some_iff.mp h
      obtain ⟨σ5, hq, h⟩ := Option.bind_eq_some_iff.mp h
      refine GC.calliV (rest := [G.rv v3]) (nz_ne h0) [] dX4_freeState_51 kk_X4_26 rfl km_X7_init (ktX7_init _ _ hq) rfl rfl (Nat.le_of_ble_eq_true rfl) (Nat.le_of_ble_eq_true rfl) ⟨G.rv_cat _, trivial⟩ (Nat.le_of_ble_eq_true rfl) ?_
      refine GC.astore_n [(0, G.rv x0), (1, G.rv v3)] dX4_freeState_54 (by decide) rfl ?_
      refine GC.aload_n 0 dX4_freeState_55 rfl ?_
      refine GC.getr 4 0 rfl (by decide) (by decide) fw_X4_12 (Or.inl rfl) dX4_freeState_56 h (fun v6 h => ?_)
      refine GC.aload_n 1 dX4_freeState_59 rfl ?_
      obtain ⟨h0, h⟩ := ckd_some h
      obtain ⟨v7, σ8, hq, h⟩ := bd2_some h
      refine GC.callvI (rest := []) 12 rfl h0 rfl [G.rv v3] dX4_freeState_60 kk_X4_54 km_Jx4a65c_add_9ea2d.1 km_Jx4a65c_add_9ea2d.2 (ktJx4a65c_add_9ea2d _ _ _ hq) rfl rfl (Nat.le_of_ble_eq_true rfl) (Nat.le_of_ble_eq_true rfl) trivial (Nat.le_of_ble_eq_true rfl) ?_
      refine GoC.pop dX4_freeState_63 (rfl) ?_
      refine GC.aload_n 1 dX4_freeState_64 rfl ?_
      cases h
      exact GC.aret dX4_freeState_65 rfl (Or.inl ⟨_, rfl⟩)
    · refine GC.aload_n 0 dX4_freeState_13 rfl ?_
      refine GC.getr 4 0 rfl (by decide) (by decide) fw_X4_12 (Or.inl rfl) dX4_freeState_14 h (fun v9 h => ?_)
      refine GoC.iload_n 1 dX4_freeState_17 rfl ?_
      obtain ⟨h0, h⟩ := ckd_some h
      obtain ⟨v10, hq, h⟩ := Option.bind_eq_some_iff.mp h
      refine GC.callvR (rest := []) 12 rfl h0 rfl [.int x1] dX4_freeState_18 kk_X4_35 km_Jx4a65c_get_915e3.1 km_Jx4a65c_get_915e3.2 (ktJx4a65c_get_915e3 _ _ _ hq) rfl rfl (Nat.le_of_ble_eq_true rfl) (Nat.le_of_ble_eq_true rfl) trivial (Nat.le_of_ble_eq_true rfl) ?_
      refine GC.castS (c := 7) rfl cl_X4_24 dX4_freeState_21 h (fun h => ?_)
      refine GC.astore_n [(0, G.rv x0), (1, .int x1), (2, G.rv v10)] dX4_freeState_24 (by decide) rfl ?_
      refine GC.aload_n 2 dX4_freeState_25 rfl ?_
      refine GC.geti 7 11 rfl (by decide) (by decide) fw_X4_39 (Or.inl rfl) dX4_freeState_26 h (fun v11 h => ?_)
      refine GoC.if_ne 41 dX4_freeState_29 (by decide) h (fun h => ?_) (fun h => ?_)
      · refine GoC.sub [0, 1] rfl ?_
        exact ksX4_freeState_41 _ ih _ _ _ h
      · refine GC.aload_n 2 dX4_freeState_32 rfl ?_
        refine GC.geti 7 12 rfl (by decide) (by decide) fw_X4_58 (Or.inl rfl) dX4_freeState_33 h (fun v12 h => ?_)
        refine GoC.if_ne 41 dX4_freeState_36 (by decide) h (fun h => ?_) (fun h => ?_)
        · refine GoC.sub [0, 1] rfl ?_
          exact ksX4_freeState_41 _ ih _ _ _ h
        · refine GC.aload_n 2 dX4_freeState_39 rfl ?_
          cases h
          exact GC.aret dX4_freeState_40 rfl (Or.inl ⟨_, rfl⟩)
set_option maxRecDepth 20000 in
theorem ksX4_freeState {l : Launch} {G : Gt} {n0 u0 : Nat} {σ : Hp} {Z : Nat × Hp} (x0 : Nat) (h : kX4_freeState σ x0 = some Z) : GoC l G RX4 "freeState" cX4_freeState 3 (some (.object "LikePages$State")) 8 199 n0 u0 (some (G.rv Z.1)) Z.2 0 [(0, G.rv x0)] [] σ := by
  unfold kX4_freeState at h
  refine GoC.iconst 0 dX4_freeState_0 (by decide) ?_
  refine GoC.istore_n [(0, G.rv x0), (1, .int 0)] dX4_freeState_1 (by decide) rfl ?_
  exact ksX4_freeState_2 _ _ _ _ h
set_option maxRecDepth 20000 in
theorem ktX4_freeState {l : Launch} {G : Gt} {σ : Hp} (x0 : Nat) : ∀ Z, kX4_freeState σ x0 = some Z → MtC l G yX4_freeState cX4_freeState 3 (some (.object "LikePages$State")) 8 199 [G.rv x0] σ (some (G.rv Z.1)) Z.2 := fun Z h => MtC.at (by decide +kernel) ⟨G.rv_cat _, trivial⟩ (Nat.le_of_ble_eq_true rfl) (ksX4_freeState x0 h)
/-! X7_at -/
def kX7_at_24 (σ : Hp)  (y0 : Nat) (y1 : Int32) : Option (Nat) := ckd σ y0 22 ((kJx4a65c_get_915e3 σ y0 y1).bind (fun v1 => ckc σ v1 13 (some v1)))
def kX7_at_20 (σ : Hp)  (x0 : Nat) (y0 : Nat) : Option (Nat) := (gfi σ 17 710 x0).bind (fun v2 => kX7_at_24 σ y0 v2)
def kX7_at (σ : Hp) (x0 : Nat) (x1 : Int32) : Option (Nat) := (gfr σ 17 708 x0).bind (fun v3 => if x1 < 0 then kX7_at_20 σ x0 v3 else (gfi σ 17 709 x0).bind (fun v4 => if v4 ≤ x1 then kX7_at_20 σ x0 v3 else kX7_at_24 σ v3 x1))
set_option maxRecDepth 20000 in
theorem ksX7_at_24 {l : Launch} {G : Gt} {n0 u0 : Nat} {σ : Hp} {Z : Nat} (y0 : Nat) (y1 : Int32) (h : kX7_at_24 σ y0 y1 = some Z) : GoC l G RX7 "at" cX7_at 2 (some (.object "LikePages$Page")) 3 64 n0 u0 (some (G.rv Z)) σ 24 [] [.int y1, G.rv y0] σ := by
  unfold kX7_at_24 at h
  obtain ⟨h0, h⟩ := ckd_some h
  obtain ⟨v1, hq, h⟩ := Option.bind_eq_some_iff.mp h
  refine GC.callvR (rest := []) 12 rfl h0 rfl [.int y1] dX7_at_24 kk_X7_65 km_Jx4a65c_get_915e3.1 km_Jx4a65c_get_915e3.2 (ktJx4a65c_get_915e3 _ _ _ hq) rfl rfl (Nat.le_of_ble_eq_true rfl) (Nat.le_of_ble_eq_true rfl) trivial (Nat.le_of_ble_eq_true rfl) ?_
  refine GC.castS (c := 3) rfl cl_X7_41 dX7_at_27 h (fun h => ?_)
  cases h
  exact GC.aret dX7_at_30 rfl (Or.inl ⟨_, rfl⟩)
set_option maxRecDepth 20000 in
theorem ksX7_at_20 {l : Launch} {G : Gt} {n0 u0 : Nat} {σ : Hp} {Z : Nat} (x0 : Nat) (y0 : Nat) (h : kX7_at_20 σ x0 y0 = some Z) : GoC l G RX7 "at" cX7_at 2 (some (.object "LikePages$Page")) 3 64 n0 u0 (some (G.rv Z)) σ 20 [(0, G.rv x0)] [G.rv y0] σ := by
  unfold kX7_at_20 at h
  refine GC.aload_n 0 dX7_at_20 rfl ?_
  refine GC.geti 7 10 rfl (by decide) (by decide) fw_X7_62 (Or.inl rfl) dX7_at_21 h (fun v2 h => ?_)
  refine GoC.sub [] rfl ?_
  exact ksX7_at_24 _ _ h
set_option maxRecDepth 20000 in
theorem ksX7_at {l : Launch} {G : Gt} {n0 u0 : Nat} {σ : Hp} {Z : Nat} (x0 : Nat) (x1 : Int32) (h : kX7_at σ x0 x1 = some Z) : GoC l G RX7 "at" cX7_at 2 (some (.object "LikePages$Page")) 3 64 n0 u0 (some (G.rv Z)) σ 0 [(0, G.rv x0), (1, .int x1)] [] σ := by
  unfold kX7_at at h
  refine GC.aload_n 0 dX7_at_0 rfl ?_
  refine GC.getr 7 8 rfl (by decide) (by decide) fw_X7_34 (Or.inl rfl) dX7_at_1 h (fun v3 h => ?_)
  refine GoC.iload_n 1 dX7_at_4 rfl ?_
  refine GoC.if_lt 20 dX7_at_5 (by decide) h (fun h => ?_) (fun h => ?_)
  · refine GoC.sub [0] rfl ?_
    exact ksX7_at_20 _ _ h
  · refine GoC.iload_n 1 dX7_at_8 rfl ?_
    refine GC.aload_n 0 dX7_at_9 rfl ?_
    refine GC.geti 7 9 rfl (by decide) (by decide) fw_X7_38 (Or.inl rfl) dX7_at_10 h (fun v4 h => ?_)
    refine GoC.icmp_ge 20 dX7_at_13 (by decide) h (fun h => ?_) (fun h => ?_)
    · refine GoC.sub [0] rfl ?_
      exact ksX7_at_20 _ _ h
    · refine GoC.iload_n 1 dX7_at_16 rfl ?_
      refine GoC.goto 24 dX7_at_17 (by decide) ?_
      refine GoC.sub [] rfl ?_
      exact ksX7_at_24 _ _ h
set_option maxRecDepth 20000 in
theorem ktX7_at {l : Launch} {G : Gt} {σ : Hp} (x0 : Nat) (x1 : Int32) : ∀ Z, kX7_at σ x0 x1 = some Z → MtC l G yX7_at cX7_at 2 (some (.object "LikePages$Page")) 3 64 [G.rv x0, .int x1] σ (some (G.rv Z)) σ := fun Z h => MtC.at (by decide +kernel) ⟨G.rv_cat _, rfl, trivial⟩ (Nat.le_of_ble_eq_true rfl) (ksX7_at x0 x1 h)
/-! X7_takePage -/
def kX7_takePage_29  (x0 : Nat) (x1 : Int32) (σ : Hp) : Option (Int32 × Hp) := (gfi σ 17 709 x0).bind (fun v1 => (gfi σ 17 709 x0).bind (fun v2 => (pfi σ 17 709 x0 (v2 + 1)).bind (fun σ3 => ckd σ3 x0 17 ((kX7_at σ3 x0 v1).bind (fun v4 => ckd σ3 v4 13 ((kX3_empty σ3 v4 x1).bind (fun σ5 => some (v1, σ5))))))))
def kX7_takePage (σ : Hp) (x0 : Nat) (x1 : Int32) : Option (Int32 × Hp) := (gfi σ 17 709 x0).bind (fun v6 => (gfr σ 17 708 x0).bind (fun v7 => ckd σ v7 22 ((kJx4a65c_size_8abf5 σ v7).bind (fun v8 => if v6 < v8 then kX7_takePage_29 x0 x1 σ else (gfr σ 17 708 x0).bind (fun v9 => bd2 (nwO σ 3 14) (fun v10 σ11 => (nz v10).bind (fun _ => (kX3_init σ11 v10).bind (fun σ12 => ckd σ12 v9 22 (bd2 (kJx4a65c_add_9ea2d σ12 v9 v10) (fun v13 σ14 => kX7_takePage_29 x0 x1 σ14))))))))))
set_option maxRecDepth 20000 in
theorem ksX7_takePage_29 {l : Launch} {G : Gt} {n0 u0 : Nat} {Z : Int32 × Hp} (x0 : Nat) (x1 : Int32) (σ : Hp) (h : kX7_takePage_29 x0 x1 σ = some Z) : GoC l G RX7 "takePage" cX7_takePage 3 (some .int) 7 179 n0 u0 (some (.int Z.1)) Z.2 29 [(0, G.rv x0), (1, .int x1)] [] σ := by
  unfold kX7_takePage_29 at h
  refine GC.aload_n 0 dX7_takePage_29 rfl ?_
  refine GC.geti 7 9 rfl (by decide) (by decide) fw_X7_38 (Or.inl rfl) dX7_takePage_30 h (fun v1 h => ?_)
  refine GoC.istore_n [(0, G.rv x0), (1, .int x1), (2, .int v1)] dX7_takePage_33 (by decide) rfl ?_
  refine GC.aload_n 0 dX7_takePage_34 rfl ?_
  refine GoC.dup dX7_takePage_35 (G.rv_cat _) ?_
  refine GC.geti 7 9 rfl (by decide) (by decide) fw_X7_38 (Or.inl rfl) dX7_takePage_36 h (fun v2 h => ?_)
  refine GoC.iconst 1 dX7_takePage_39 (by decide) ?_
  refine GoC.iadd dX7_takePage_40 ?_
  refine GC.puti 7 9 rfl (by decide) (by decide) (rfl) fw_X7_38 (Or.inl rfl) (Or.inl rfl) dX7_takePage_41 h (fun σ3 h => ?_)
  refine GC.aload_n 0 dX7_takePage_44 rfl ?_
  refine GoC.iload_n 2 dX7_takePage_45 rfl ?_
  obtain ⟨h0, h⟩ := ckd_some h
  obtain ⟨v4, hq, h⟩ := Option.bind_eq_some_iff.mp h
  refine GC.callvR (rest := []) 7 rfl h0 rfl [.int v1] dX7_takePage_46 kk_X7_73 km_X7_at.1 km_X7_at.2 (ktX7_at _ _ _ hq) rfl rfl (Nat.le_of_ble_eq_true rfl) (Nat.le_of_ble_eq_true rfl) trivial (Nat.le_of_ble_eq_true rfl) ?_
  refine GoC.iload_n 1 dX7_takePage_49 rfl ?_
  obtain ⟨h0, h⟩ := ckd_some h
  obtain ⟨σ5, hq, h⟩ := Option.bind_eq_some_iff.mp h
  refine GC.callvV (rest := []) 3 rfl h0 rfl [.int x1] dX7_takePage_50 kk_X7_77 km_X3_empty.1 km_X3_empty.2 (ktX3_empty _ _ _ hq) rfl rfl (Nat.le_of_ble_eq_true rfl) (Nat.le_of_ble_eq_true rfl) trivial (Nat.le_of_ble_eq_true rfl) ?_
  refine GoC.iload_n 2 dX7_takePage_53 rfl ?_
  cases h
  exact GoC.iret dX7_takePage_54 rfl
set_option maxRecDepth 20000 in
theorem ksX7_takePage {l : Launch} {G : Gt} {n0 u0 : Nat} {σ : Hp} {Z : Int32 × Hp} (x0 : Nat) (x1 : Int32) (h : kX7_takePage σ x0 x1 = some Z) : GoC l G RX7 "takePage" cX7_takePage 3 (some .int) 7 179 n0 u0 (some (.int Z.1)) Z.2 0 [(0, G.rv x0), (1, .int x1)] [] σ := by
  unfold kX7_takePage at h
  refine GC.aload_n 0 dX7_takePage_0 rfl ?_
  refine GC.geti 7 9 rfl (by decide) (by decide) fw_X7_38 (Or.inl rfl) dX7_takePage_1 h (fun v6 h => ?_)
  refine GC.aload_n 0 dX7_takePage_4 rfl ?_
  refine GC.getr 7 8 rfl (by decide) (by decide) fw_X7_34 (Or.inl rfl) dX7_takePage_5 h (fun v7 h => ?_)
  obtain ⟨h0, h⟩ := ckd_some h
  obtain ⟨v8, hq, h⟩ := Option.bind_eq_some_iff.mp h
  refine GC.callvI (rest := [.int v6]) 12 rfl h0 rfl [] dX7_takePage_8 kk_X7_69 km_Jx4a65c_size_8abf5.1 km_Jx4a65c_size_8abf5.2 (ktJx4a65c_size_8abf5 _ _ hq) rfl rfl (Nat.le_of_ble_eq_true rfl) (Nat.le_of_ble_eq_true rfl) ⟨rfl, trivial⟩ (Nat.le_of_ble_eq_true rfl) ?_
  refine GoC.icmp_lt 29 dX7_takePage_11 (by decide) h (fun h => ?_) (fun h => ?_)
  · exact ksX7_takePage_29 _ _ _ h
  · refine GC.aload_n 0 dX7_takePage_14 rfl ?_
    refine GC.getr 7 8 rfl (by decide) (by decide) fw_X7_34 (Or.inl rfl) dX7_takePage_15 h (fun v9 h => ?_)
    refine GC.new 3 rfl cl_X7_41 is_X3 ii_X3 dX7_takePage_18 h (fun v10 σ11 h => ?_)
    refine GoC.dup dX7_takePage_21 (G.rv_cat _) ?_
    obtain ⟨_, h0, h⟩ := Option.bind_eq_some_iff.mp h
    obtain ⟨σ12, hq, h⟩ := Option.bind_eq_some_iff.mp h
    refine GC.callnV (rest := [G.rv v10, G.rv v9]) (host := RX11) (nz_ne h0) [] dX7_takePage_22 (fun s q => q.2.2.2.2.1) kc_X3_init.1 kc_X3_init.2 (by decide +kernel) rfl km_X3_init (ktX3_init _ _ hq) rfl rfl (Nat.le_of_ble_eq_true rfl) (Nat.le_of_ble_eq_true rfl) ⟨G.rv_cat _, G.rv_cat _, trivial⟩ (Nat.le_of_ble_eq_true rfl) ?_
    obtain ⟨h0, h⟩ := ckd_some h
    obtain ⟨v13, σ14, hq, h⟩ := bd2_some h
    refine GC.callvI (rest := []) 12 rfl h0 rfl [G.rv v10] dX7_takePage_25 kk_X7_44 km_Jx4a65c_add_9ea2d.1 km_Jx4a65c_add_9ea2d.2 (ktJx4a65c_add_9ea2d _ _ _ hq) rfl rfl (Nat.le_of_ble_eq_true rfl) (Nat.le_of_ble_eq_true rfl) trivial (Nat.le_of_ble_eq_true rfl) ?_
    refine GoC.pop dX7_takePage_28 (rfl) ?_
    exact ksX7_takePage_29 _ _ _ h
set_option maxRecDepth 20000 in
theorem ktX7_takePage {l : Launch} {G : Gt} {σ : Hp} (x0 : Nat) (x1 : Int32) : ∀ Z, kX7_takePage σ x0 x1 = some Z → MtC l G yX7_takePage cX7_takePage 3 (some .int) 7 179 [G.rv x0, .int x1] σ (some (.int Z.1)) Z.2 := fun Z h => MtC.at (by decide +kernel) ⟨G.rv_cat _, rfl, trivial⟩ (Nat.le_of_ble_eq_true rfl) (ksX7_takePage x0 x1 h)
/-! X7_copyFrom -/
def kX7_copyFrom_105  : Nat → Nat → Nat → Int32 → Hp → Option (Hp)
  | 0, _, _, _, _ => none
  | n + 1, x0, x1, x2, σ => (gfi σ 17 709 x1).bind (fun v1 => if v1 ≤ x2 then (gfi σ 17 710 x1).bind (fun v2 => (pfi σ 17 710 x0 v2).bind (fun σ3 => some σ3)) else ckd σ x0 17 (bd2 (kX7_takePage σ x0 1) (fun v4 σ5 => ckd σ5 x0 17 ((kX7_at σ5 x0 x2).bind (fun v6 => ckd σ5 x1 17 ((kX7_at σ5 x1 x2).bind (fun v7 => ckd σ5 v6 13 ((kX3_copyFrom σ5 v6 v7).bind (fun σ8 => kX7_copyFrom_105 n x0 x1 (x2 + 1) σ8)))))))))
def kX7_copyFrom (σ : Hp) (x0 : Nat) (x1 : Nat) : Option (Hp) := (gfr σ 17 700 x1).bind (fun v9 => (gfr σ 17 700 x0).bind (fun v10 => (cpI σ v9 0 v10 0 40).bind (fun σ11 => (gfi σ11 17 701 x1).bind (fun v12 => (pfi σ11 17 701 x0 v12).bind (fun σ13 => (gfr σ13 17 702 x1).bind (fun v14 => (gfr σ13 17 702 x0).bind (fun v15 => (gfi σ13 17 705 x1).bind (fun v16 => (cpI σ13 v14 0 v15 0 v16).bind (fun σ17 => (gfr σ17 17 703 x1).bind (fun v18 => (gfr σ17 17 703 x0).bind (fun v19 => (gfi σ17 17 705 x1).bind (fun v20 => (cpI σ17 v18 0 v19 0 v20).bind (fun σ21 => (gfr σ21 17 704 x1).bind (fun v22 => (gfr σ21 17 704 x0).bind (fun v23 => (gfi σ21 17 705 x1).bind (fun v24 => (cpI σ21 v22 0 v23 0 v24).bind (fun σ25 => (gfi σ25 17 705 x1).bind (fun v26 => (pfi σ25 17 705 x0 v26).bind (fun σ27 => (gfi σ27 17 706 x1).bind (fun v28 => (pfi σ27 17 706 x0 v28).bind (fun σ29 => (gfi σ29 17 707 x1).bind (fun v30 => (pfi σ29 17 707 x0 v30).bind (fun σ31 => (pfi σ31 17 709 x0 0).bind (fun σ32 => kX7_copyFrom_105 FU x0 x1 0 σ32))))))))))))))))))))))))
set_option maxRecDepth 20000 in
theorem ksX7_copyFrom_105 {l : Launch} {G : Gt} {n0 u0 : Nat} {Z : Hp} (n : Nat) : ∀ (x0 : Nat) (x1 : Nat) (x2 : Int32) (σ : Hp), kX7_copyFrom_105 n x0 x1 x2 σ = some Z → GoC l G RX7 "copyFrom" cX7_copyFrom 3 none 8 201 n0 u0 none Z 105 [(0, G.rv x0), (1, G.rv x1), (2, .int x2)] [] σ := by
  induction n with
  | zero => intro x0 x1 x2 σ h; rw [kX7_copyFrom_105] at h; cases h
  | succ n ih =>
    intro x0 x1 x2 σ h
    rw [kX7_copyFrom_105] at h
    refine GoC.iload_n 2 dX7_copyFrom_105 rfl ?_
    refine GC.aload_n 1 dX7_copyFrom_106 rfl ?_
    refine GC.geti 7 9 rfl (by decide) (by decide) fw_X7_38 (Or.inl rfl) dX7_copyFrom_107 h (fun v1 h => ?_)
    refine GoC.icmp_ge 138 dX7_copyFrom_110 (by decide) h (fun h => ?_) (fun h => ?_)
    · refine GC.aload_n 0 dX7_copyFrom_138 rfl ?_
      refine GC.aload_n 1 dX7_copyFrom_139 rfl ?_
      refine GC.geti 7 10 rfl (by decide) (by decide) fw_X7_62 (Or.inl rfl) dX7_copyFrom_140 h (fun v2 h => ?_)
      refine GC.puti 7 10 rfl (by decide) (by decide) (rfl) fw_X7_62 (Or.inl rfl) (Or.inl rfl) dX7_copyFrom_143 h (fun σ3 h => ?_)
      cases h
      exact GoC.vret dX7_copyFrom_146 rfl
    · refine GC.aload_n 0 dX7_copyFrom_113 rfl ?_
      refine GoC.iconst 1 dX7_copyFrom_114 (by decide) ?_
      obtain ⟨h0, h⟩ := ckd_some h
      obtain ⟨v4, σ5, hq, h⟩ := bd2_some h
      refine GC.callvI (rest := []) 7 rfl h0 rfl [.int 1] dX7_copyFrom_115 kk_X7_81 km_X7_takePage.1 km_X7_takePage.2 (ktX7_takePage _ _ _ hq) rfl rfl (Nat.le_of_ble_eq_true rfl) (Nat.le_of_ble_eq_true rfl) trivial (Nat.le_of_ble_eq_true rfl) ?_
      refine GoC.pop dX7_copyFrom_118 (rfl) ?_
      refine GC.aload_n 0 dX7_copyFrom_119 rfl ?_
      refine GoC.iload_n 2 dX7_copyFrom_120 rfl ?_
      obtain ⟨h0, h⟩ := ckd_some h
      obtain ⟨v6, hq, h⟩ := Option.bind_eq_some_iff.mp h
      refine GC.callvR (rest := []) 7 rfl h0 rfl [.int x2] dX7_copyFrom_121 kk_X7_73 km_X7_at.1 km_X7_at.2 (ktX7_at _ _ _ hq) rfl rfl (Nat.le_of_ble_eq_true rfl) (Nat.le_of_ble_eq_true rfl) trivial (Nat.le_of_ble_eq_true rfl) ?_
      refine GC.aload_n 1 dX7_copyFrom_124 rfl ?_
      refine GoC.iload_n 2 dX7_copyFrom_125 rfl ?_
      obtain ⟨h0, h⟩ := ckd_some h
      obtain ⟨v7, hq, h⟩ := Option.bind_eq_some_iff.mp h
      refine GC.callvR (rest := [G.rv v6]) 7 rfl h0 rfl [.int x2] dX7_copyFrom_126 kk_X7_73 km_X7_at.1 km_X7_at.2 (ktX7_at _ _ _ hq) rfl rfl (Nat.le_of_ble_eq_true rfl) (Nat.le_of_ble_eq_true rfl) ⟨G.rv_cat _, trivial⟩ (Nat.le_of_ble_eq_true rfl) ?_
      obtain ⟨h0, h⟩ := ckd_some h
      obtain ⟨σ8, hq, h⟩ := Option.bind_eq_some_iff.mp h
      refine GC.callvV (rest := []) 3 rfl h0 rfl [G.rv v7] dX7_copyFrom_129 kk_X7_91 km_X3_copyFrom.1 km_X3_copyFrom.2 (ktX3_copyFrom _ _ _ hq) rfl rfl (Nat.le_of_ble_eq_true rfl) (Nat.le_of_ble_eq_true rfl) trivial (Nat.le_of_ble_eq_true rfl) ?_
      refine GoC.iinc (w := 1) 2 [(0, G.rv x0), (1, G.rv x1), (2, .int (x2 + 1))] dX7_copyFrom_132 rfl (by decide) (by decide) rfl ?_
      refine GoC.goto 105 dX7_copyFrom_135 (by decide) ?_
      exact ih _ _ _ _ h
set_option maxRecDepth 20000 in
theorem ksX7_copyFrom {l : Launch} {G : Gt} {n0 u0 : Nat} {σ : Hp} {Z : Hp} (x0 : Nat) (x1 : Nat) (h : kX7_copyFrom σ x0 x1 = some Z) : GoC l G RX7 "copyFrom" cX7_copyFrom 3 none 8 201 n0 u0 none Z 0 [(0, G.rv x0), (1, G.rv x1)] [] σ := by
  unfold kX7_copyFrom at h
  refine GC.aload_n 1 dX7_copyFrom_0 rfl ?_
  refine GC.getr 7 0 rfl (by decide) (by decide) fw_X7_9 (Or.inl rfl) dX7_copyFrom_1 h (fun v9 h => ?_)
  refine GoC.iconst 0 dX7_copyFrom_4 (by decide) ?_
  refine GC.aload_n 0 dX7_copyFrom_5 rfl ?_
  refine GC.getr 7 0 rfl (by decide) (by decide) fw_X7_9 (Or.inl rfl) dX7_copyFrom_6 h (fun v10 h => ?_)
  refine GoC.iconst 0 dX7_copyFrom_9 (by decide) ?_
  refine GoC.bipush 40 dX7_copyFrom_10 (by decide) ?_
  refine GC.copyI ac_X7_85 ac_nat ac_stat ac_ini dX7_copyFrom_12 (Nat.le_of_ble_eq_true rfl) trivial (Nat.le_of_ble_eq_true (by decide)) h (fun σ11 h => ?_)
  refine GC.aload_n 0 dX7_copyFrom_15 rfl ?_
  refine GC.aload_n 1 dX7_copyFrom_16 rfl ?_
  refine GC.geti 7 1 rfl (by decide) (by decide) fw_X7_52 (Or.inl rfl) dX7_copyFrom_17 h (fun v12 h => ?_)
  refine GC.puti 7 1 rfl (by decide) (by decide) (rfl) fw_X7_52 (Or.inl rfl) (Or.inl rfl) dX7_copyFrom_20 h (fun σ13 h => ?_)
  refine GC.aload_n 1 dX7_copyFrom_23 rfl ?_
  refine GC.getr 7 2 rfl (by decide) (by decide) fw_X7_15 (Or.inl rfl) dX7_copyFrom_24 h (fun v14 h => ?_)
  refine GoC.iconst 0 dX7_copyFrom_27 (by decide) ?_
  refine GC.aload_n 0 dX7_copyFrom_28 rfl ?_
  refine GC.getr 7 2 rfl (by decide) (by decide) fw_X7_15 (Or.inl rfl) dX7_copyFrom_29 h (fun v15 h => ?_)
  refine GoC.iconst 0 dX7_copyFrom_32 (by decide) ?_
  refine GC.aload_n 1 dX7_copyFrom_33 rfl ?_
  refine GC.geti 7 5 rfl (by decide) (by decide) fw_X7_55 (Or.inl rfl) dX7_copyFrom_34 h (fun v16 h => ?_)
  refine GC.copyI ac_X7_85 ac_nat ac_stat ac_ini dX7_copyFrom_37 (Nat.le_of_ble_eq_true rfl) trivial (Nat.le_of_ble_eq_true (by decide)) h (fun σ17 h => ?_)
  refine GC.aload_n 1 dX7_copyFrom_40 rfl ?_
  refine GC.getr 7 3 rfl (by decide) (by decide) fw_X7_18 (Or.inl rfl) dX7_copyFrom_41 h (fun v18 h => ?_)
  refine GoC.iconst 0 dX7_copyFrom_44 (by decide) ?_
  refine GC.aload_n 0 dX7_copyFrom_45 rfl ?_
  refine GC.getr 7 3 rfl (by decide) (by decide) fw_X7_18 (Or.inl rfl) dX7_copyFrom_46 h (fun v19 h => ?_)
  refine GoC.iconst 0 dX7_copyFrom_49 (by decide) ?_
  refine GC.aload_n 1 dX7_copyFrom_50 rfl ?_
  refine GC.geti 7 5 rfl (by decide) (by decide) fw_X7_55 (Or.inl rfl) dX7_copyFrom_51 h (fun v20 h => ?_)
  refine GC.copyI ac_X7_85 ac_nat ac_stat ac_ini dX7_copyFrom_54 (Nat.le_of_ble_eq_true rfl) trivial (Nat.le_of_ble_eq_true (by decide)) h (fun σ21 h => ?_)
  refine GC.aload_n 1 dX7_copyFrom_57 rfl ?_
  refine GC.getr 7 4 rfl (by decide) (by decide) fw_X7_21 (Or.inl rfl) dX7_copyFrom_58 h (fun v22 h => ?_)
  refine GoC.iconst 0 dX7_copyFrom_61 (by decide) ?_
  refine GC.aload_n 0 dX7_copyFrom_62 rfl ?_
  refine GC.getr 7 4 rfl (by decide) (by decide) fw_X7_21 (Or.inl rfl) dX7_copyFrom_63 h (fun v23 h => ?_)
  refine GoC.iconst 0 dX7_copyFrom_66 (by decide) ?_
  refine GC.aload_n 1 dX7_copyFrom_67 rfl ?_
  refine GC.geti 7 5 rfl (by decide) (by decide) fw_X7_55 (Or.inl rfl) dX7_copyFrom_68 h (fun v24 h => ?_)
  refine GC.copyI ac_X7_85 ac_nat ac_stat ac_ini dX7_copyFrom_71 (Nat.le_of_ble_eq_true rfl) trivial (Nat.le_of_ble_eq_true (by decide)) h (fun σ25 h => ?_)
  refine GC.aload_n 0 dX7_copyFrom_74 rfl ?_
  refine GC.aload_n 1 dX7_copyFrom_75 rfl ?_
  refine GC.geti 7 5 rfl (by decide) (by decide) fw_X7_55 (Or.inl rfl) dX7_copyFrom_76 h (fun v26 h => ?_)
  refine GC.puti 7 5 rfl (by decide) (by decide) (rfl) fw_X7_55 (Or.inl rfl) (Or.inl rfl) dX7_copyFrom_79 h (fun σ27 h => ?_)
  refine GC.aload_n 0 dX7_copyFrom_82 rfl ?_
  refine GC.aload_n 1 dX7_copyFrom_83 rfl ?_
  refine GC.geti 7 6 rfl (by decide) (by decide) fw_X7_24 (Or.inl rfl) dX7_copyFrom_84 h (fun v28 h => ?_)
  refine GC.puti 7 6 rfl (by decide) (by decide) (rfl) fw_X7_24 (Or.inl rfl) (Or.inl rfl) dX7_copyFrom_87 h (fun σ29 h => ?_)
  refine GC.aload_n 0 dX7_copyFrom_90 rfl ?_
  refine GC.aload_n 1 dX7_copyFrom_91 rfl ?_
  refine GC.geti 7 7 rfl (by decide) (by decide) fw_X7_28 (Or.inl rfl) dX7_copyFrom_92 h (fun v30 h => ?_)
  refine GC.puti 7 7 rfl (by decide) (by decide) (rfl) fw_X7_28 (Or.inl rfl) (Or.inl rfl) dX7_copyFrom_95 h (fun σ31 h => ?_)
  refine GC.aload_n 0 dX7_copyFrom_98 rfl ?_
  refine GoC.iconst 0 dX7_copyFrom_99 (by decide) ?_
  refine GC.puti 7 9 rfl (by decide) (by decide) (rfl) fw_X7_38 (Or.inl rfl) (Or.inl rfl) dX7_copyFrom_100 h (fun σ32 h => ?_)
  refine GoC.iconst 0 dX7_copyFrom_103 (by decide) ?_
  refine GoC.istore_n [(0, G.rv x0), (1, G.rv x1), (2, .int 0)] dX7_copyFrom_104 (by decide) rfl ?_
  exact ksX7_copyFrom_105 _ _ _ _ _ h
set_option maxRecDepth 20000 in
theorem ktX7_copyFrom {l : Launch} {G : Gt} {σ : Hp} (x0 : Nat) (x1 : Nat) : ∀ Z, kX7_copyFrom σ x0 x1 = some Z → MtC l G yX7_copyFrom cX7_copyFrom 3 none 8 201 [G.rv x0, G.rv x1] σ none Z := fun Z h => MtC.at (by decide +kernel) ⟨G.rv_cat _, G.rv_cat _, trivial⟩ (Nat.le_of_ble_eq_true rfl) (ksX7_copyFrom x0 x1 h)
/-! X4_keep -/
def kX4_keep_36  (x0 : Nat) (x1 : Nat) (σ : Hp) : Option (Hp) := ckd σ x0 14 (bd2 (kX4_freeState σ x0) (fun v1 σ2 => ckd σ2 v1 17 ((kX7_copyFrom σ2 v1 x1).bind (fun σ3 => (pfz σ3 17 711 v1 1).bind (fun σ4 => (gfr σ4 14 401 x0).bind (fun v5 => ckd σ4 v5 22 (bd2 (kJx4a65c_add_9ea2d σ4 v5 v1) (fun v6 σ7 => some σ7))))))))
def kX4_keep (σ : Hp) (x0 : Nat) (x1 : Nat) : Option (Hp) := (gfr σ 14 401 x0).bind (fun v8 => ckd σ v8 22 ((kJx4a65c_size_8abf5 σ v8).bind (fun v9 => if v9 < 20 then kX4_keep_36 x0 x1 σ else (gfr σ 14 401 x0).bind (fun v10 => ckd σ v10 22 ((kJx4a65c_get_915e3 σ v10 0).bind (fun v11 => ckc σ v11 17 ((pfz σ 17 711 v11 0).bind (fun σ12 => (gfr σ12 14 401 x0).bind (fun v13 => ckd σ12 v13 22 (bd2 (kJx4a65c_remove_915e3 σ12 v13 0) (fun v14 σ15 => kX4_keep_36 x0 x1 σ15)))))))))))
set_option maxRecDepth 20000 in
theorem ksX4_keep_36 {l : Launch} {G : Gt} {n0 u0 : Nat} {Z : Hp} (x0 : Nat) (x1 : Nat) (σ : Hp) (h : kX4_keep_36 x0 x1 σ = some Z) : GoC l G RX4 "keep" cX4_keep 3 none 9 223 n0 u0 none Z 36 [(0, G.rv x0), (1, G.rv x1)] [] σ := by
  unfold kX4_keep_36 at h
  refine GC.aload_n 0 dX4_keep_36 rfl ?_
  obtain ⟨h0, h⟩ := ckd_some h
  obtain ⟨v1, σ2, hq, h⟩ := bd2_some h
  refine GC.callvR (rest := []) 4 rfl h0 rfl [] dX4_keep_37 kk_X4_46 km_X4_freeState.1 km_X4_freeState.2 (ktX4_freeState _ _ hq) rfl rfl (Nat.le_of_ble_eq_true rfl) (Nat.le_of_ble_eq_true rfl) trivial (Nat.le_of_ble_eq_true rfl) ?_
  refine GC.astore_n [(0, G.rv x0), (1, G.rv x1), (2, G.rv v1)] dX4_keep_40 (by decide) rfl ?_
  refine GC.aload_n 2 dX4_keep_41 rfl ?_
  refine GC.aload_n 1 dX4_keep_42 rfl ?_
  obtain ⟨h0, h⟩ := ckd_some h
  obtain ⟨σ3, hq, h⟩ := Option.bind_eq_some_iff.mp h
  refine GC.callvV (rest := []) 7 rfl h0 rfl [G.rv x1] dX4_keep_43 kk_X4_50 km_X7_copyFrom.1 km_X7_copyFrom.2 (ktX7_copyFrom _ _ _ hq) rfl rfl (Nat.le_of_ble_eq_true rfl) (Nat.le_of_ble_eq_true rfl) trivial (Nat.le_of_ble_eq_true rfl) ?_
  refine GC.aload_n 2 dX4_keep_46 rfl ?_
  refine GoC.iconst 1 dX4_keep_47 (by decide) ?_
  refine GC.putz 7 11 rfl (by decide) (by decide) (rfl) fw_X4_39 (Or.inl rfl) (Or.inl rfl) dX4_keep_48 h (fun σ4 h => ?_)
  refine GC.aload_n 0 dX4_keep_51 rfl ?_
  refine GC.getr 4 1 rfl (by decide) (by decide) fw_X4_18 (Or.inl rfl) dX4_keep_52 h (fun v5 h => ?_)
  refine GC.aload_n 2 dX4_keep_55 rfl ?_
  obtain ⟨h0, h⟩ := ckd_some h
  obtain ⟨v6, σ7, hq, h⟩ := bd2_some h
  refine GC.callvI (rest := []) 12 rfl h0 rfl [G.rv v1] dX4_keep_56 kk_X4_54 km_Jx4a65c_add_9ea2d.1 km_Jx4a65c_add_9ea2d.2 (ktJx4a65c_add_9ea2d _ _ _ hq) rfl rfl (Nat.le_of_ble_eq_true rfl) (Nat.le_of_ble_eq_true rfl) trivial (Nat.le_of_ble_eq_true rfl) ?_
  refine GoC.pop dX4_keep_59 (rfl) ?_
  cases h
  exact GoC.vret dX4_keep_60 rfl
set_option maxRecDepth 20000 in
theorem ksX4_keep {l : Launch} {G : Gt} {n0 u0 : Nat} {σ : Hp} {Z : Hp} (x0 : Nat) (x1 : Nat) (h : kX4_keep σ x0 x1 = some Z) : GoC l G RX4 "keep" cX4_keep 3 none 9 223 n0 u0 none Z 0 [(0, G.rv x0), (1, G.rv x1)] [] σ := by
  unfold kX4_keep at h
  refine GC.aload_n 0 dX4_keep_0 rfl ?_
  refine GC.getr 4 1 rfl (by decide) (by decide) fw_X4_18 (Or.inl rfl) dX4_keep_1 h (fun v8 h => ?_)
  obtain ⟨h0, h⟩ := ckd_some h
  obtain ⟨v9, hq, h⟩ := Option.bind_eq_some_iff.mp h
  refine GC.callvI (rest := []) 12 rfl h0 rfl [] dX4_keep_4 kk_X4_31 km_Jx4a65c_size_8abf5.1 km_Jx4a65c_size_8abf5.2 (ktJx4a65c_size_8abf5 _ _ hq) rfl rfl (Nat.le_of_ble_eq_true rfl) (Nat.le_of_ble_eq_true rfl) trivial (Nat.le_of_ble_eq_true rfl) ?_
  refine GoC.bipush 20 dX4_keep_7 (by decide) ?_
  refine GoC.icmp_lt 36 dX4_keep_9 (by decide) h (fun h => ?_) (fun h => ?_)
  · exact ksX4_keep_36 _ _ _ h
  · refine GC.aload_n 0 dX4_keep_12 rfl ?_
    refine GC.getr 4 1 rfl (by decide) (by decide) fw_X4_18 (Or.inl rfl) dX4_keep_13 h (fun v10 h => ?_)
    refine GoC.iconst 0 dX4_keep_16 (by decide) ?_
    obtain ⟨h0, h⟩ := ckd_some h
    obtain ⟨v11, hq, h⟩ := Option.bind_eq_some_iff.mp h
    refine GC.callvR (rest := []) 12 rfl h0 rfl [.int 0] dX4_keep_17 kk_X4_35 km_Jx4a65c_get_915e3.1 km_Jx4a65c_get_915e3.2 (ktJx4a65c_get_915e3 _ _ _ hq) rfl rfl (Nat.le_of_ble_eq_true rfl) (Nat.le_of_ble_eq_true rfl) trivial (Nat.le_of_ble_eq_true rfl) ?_
    refine GC.castS (c := 7) rfl cl_X4_24 dX4_keep_20 h (fun h => ?_)
    refine GoC.iconst 0 dX4_keep_23 (by decide) ?_
    refine GC.putz 7 11 rfl (by decide) (by decide) (rfl) fw_X4_39 (Or.inl rfl) (Or.inl rfl) dX4_keep_24 h (fun σ12 h => ?_)
    refine GC.aload_n 0 dX4_keep_27 rfl ?_
    refine GC.getr 4 1 rfl (by decide) (by decide) fw_X4_18 (Or.inl rfl) dX4_keep_28 h (fun v13 h => ?_)
    refine GoC.iconst 0 dX4_keep_31 (by decide) ?_
    obtain ⟨h0, h⟩ := ckd_some h
    obtain ⟨v14, σ15, hq, h⟩ := bd2_some h
    refine GC.callvR (rest := []) 12 rfl h0 rfl [.int 0] dX4_keep_32 kk_X4_43 km_Jx4a65c_remove_915e3.1 km_Jx4a65c_remove_915e3.2 (ktJx4a65c_remove_915e3 _ _ _ hq) rfl rfl (Nat.le_of_ble_eq_true rfl) (Nat.le_of_ble_eq_true rfl) trivial (Nat.le_of_ble_eq_true rfl) ?_
    refine GoC.pop dX4_keep_35 (G.rv_cat _) ?_
    exact ksX4_keep_36 _ _ _ h
set_option maxRecDepth 20000 in
theorem ktX4_keep {l : Launch} {G : Gt} {σ : Hp} (x0 : Nat) (x1 : Nat) : ∀ Z, kX4_keep σ x0 x1 = some Z → MtC l G yX4_keep cX4_keep 3 none 9 223 [G.rv x0, G.rv x1] σ none Z := fun Z h => MtC.at (by decide +kernel) ⟨G.rv_cat _, G.rv_cat _, trivial⟩ (Nat.le_of_ble_eq_true rfl) (ksX4_keep x0 x1 h)
/-! X4_takeBack -/
def kX4_takeBack (σ : Hp) (x0 : Nat) (x1 : Nat) : Option (Hp) := (gfr σ 14 401 x0).bind (fun v1 => ckd σ v1 22 ((kJx4a65c_size_8abf5 σ v1).bind (fun v2 => if 0 ≤ (v2 - 1) then (gfr σ 14 401 x0).bind (fun v3 => ckd σ v3 22 ((kJx4a65c_get_915e3 σ v3 (v2 - 1)).bind (fun v4 => ckc σ v4 17 (ckd σ x1 17 ((kX7_copyFrom σ x1 v4).bind (fun σ5 => (gfr σ5 14 401 x0).bind (fun v6 => ckd σ5 v6 22 ((kJx4a65c_get_915e3 σ5 v6 (v2 - 1)).bind (fun v7 => ckc σ5 v7 17 ((pfz σ5 17 711 v7 0).bind (fun σ8 => (gfr σ8 14 401 x0).bind (fun v9 => ckd σ8 v9 22 (bd2 (kJx4a65c_remove_915e3 σ8 v9 (v2 - 1)) (fun v10 σ11 => some σ11)))))))))))))) else some σ)))
set_option maxRecDepth 20000 in
theorem ksX4_takeBack {l : Launch} {G : Gt} {n0 u0 : Nat} {σ : Hp} {Z : Hp} (x0 : Nat) (x1 : Nat) (h : kX4_takeBack σ x0 x1 = some Z) : GoC l G RX4 "takeBack" cX4_takeBack 3 none 9 223 n0 u0 none Z 0 [(0, G.rv x0), (1, G.rv x1)] [] σ := by
  unfold kX4_takeBack at h
  refine GC.aload_n 0 dX4_takeBack_0 rfl ?_
  refine GC.getr 4 1 rfl (by decide) (by decide) fw_X4_18 (Or.inl rfl) dX4_takeBack_1 h (fun v1 h => ?_)
  obtain ⟨h0, h⟩ := ckd_some h
  obtain ⟨v2, hq, h⟩ := Option.bind_eq_some_iff.mp h
  refine GC.callvI (rest := []) 12 rfl h0 rfl [] dX4_takeBack_4 kk_X4_31 km_Jx4a65c_size_8abf5.1 km_Jx4a65c_size_8abf5.2 (ktJx4a65c_size_8abf5 _ _ hq) rfl rfl (Nat.le_of_ble_eq_true rfl) (Nat.le_of_ble_eq_true rfl) trivial (Nat.le_of_ble_eq_true rfl) ?_
  refine GoC.iconst 1 dX4_takeBack_7 (by decide) ?_
  refine GoC.isub dX4_takeBack_8 ?_
  refine GoC.istore_n [(0, G.rv x0), (1, G.rv x1), (2, .int (v2 - 1))] dX4_takeBack_9 (by decide) rfl ?_
  refine GoC.iload_n 2 dX4_takeBack_10 rfl ?_
  refine GoC.if_ge 15 dX4_takeBack_11 (by decide) h (fun h => ?_) (fun h => ?_)
  · refine GC.aload_n 1 dX4_takeBack_15 rfl ?_
    refine GC.aload_n 0 dX4_takeBack_16 rfl ?_
    refine GC.getr 4 1 rfl (by decide) (by decide) fw_X4_18 (Or.inl rfl) dX4_takeBack_17 h (fun v3 h => ?_)
    refine GoC.iload_n 2 dX4_takeBack_20 rfl ?_
    obtain ⟨h0, h⟩ := ckd_some h
    obtain ⟨v4, hq, h⟩ := Option.bind_eq_some_iff.mp h
    refine GC.callvR (rest := [G.rv x1]) 12 rfl h0 rfl [.int (v2 - 1)] dX4_takeBack_21 kk_X4_35 km_Jx4a65c_get_915e3.1 km_Jx4a65c_get_915e3.2 (ktJx4a65c_get_915e3 _ _ _ hq) rfl rfl (Nat.le_of_ble_eq_true rfl) (Nat.le_of_ble_eq_true rfl) ⟨G.rv_cat _, trivial⟩ (Nat.le_of_ble_eq_true rfl) ?_
    refine GC.castS (c := 7) rfl cl_X4_24 dX4_takeBack_24 h (fun h => ?_)
    obtain ⟨h0, h⟩ := ckd_some h
    obtain ⟨σ5, hq, h⟩ := Option.bind_eq_some_iff.mp h
    refine GC.callvV (rest := []) 7 rfl h0 rfl [G.rv v4] dX4_takeBack_27 kk_X4_50 km_X7_copyFrom.1 km_X7_copyFrom.2 (ktX7_copyFrom _ _ _ hq) rfl rfl (Nat.le_of_ble_eq_true rfl) (Nat.le_of_ble_eq_true rfl) trivial (Nat.le_of_ble_eq_true rfl) ?_
    refine GC.aload_n 0 dX4_takeBack_30 rfl ?_
    refine GC.getr 4 1 rfl (by decide) (by decide) fw_X4_18 (Or.inl rfl) dX4_takeBack_31 h (fun v6 h => ?_)
    refine GoC.iload_n 2 dX4_takeBack_34 rfl ?_
    obtain ⟨h0, h⟩ := ckd_some h
    obtain ⟨v7, hq, h⟩ := Option.bind_eq_some_iff.mp h
    refine GC.callvR (rest := []) 12 rfl h0 rfl [.int (v2 - 1)] dX4_takeBack_35 kk_X4_35 km_Jx4a65c_get_915e3.1 km_Jx4a65c_get_915e3.2 (ktJx4a65c_get_915e3 _ _ _ hq) rfl rfl (Nat.le_of_ble_eq_true rfl) (Nat.le_of_ble_eq_true rfl) trivial (Nat.le_of_ble_eq_true rfl) ?_
    refine GC.castS (c := 7) rfl cl_X4_24 dX4_takeBack_38 h (fun h => ?_)
    refine GoC.iconst 0 dX4_takeBack_41 (by decide) ?_
    refine GC.putz 7 11 rfl (by decide) (by decide) (rfl) fw_X4_39 (Or.inl rfl) (Or.inl rfl) dX4_takeBack_42 h (fun σ8 h => ?_)
    refine GC.aload_n 0 dX4_takeBack_45 rfl ?_
    refine GC.getr 4 1 rfl (by decide) (by decide) fw_X4_18 (Or.inl rfl) dX4_takeBack_46 h (fun v9 h => ?_)
    refine GoC.iload_n 2 dX4_takeBack_49 rfl ?_
    obtain ⟨h0, h⟩ := ckd_some h
    obtain ⟨v10, σ11, hq, h⟩ := bd2_some h
    refine GC.callvR (rest := []) 12 rfl h0 rfl [.int (v2 - 1)] dX4_takeBack_50 kk_X4_43 km_Jx4a65c_remove_915e3.1 km_Jx4a65c_remove_915e3.2 (ktJx4a65c_remove_915e3 _ _ _ hq) rfl rfl (Nat.le_of_ble_eq_true rfl) (Nat.le_of_ble_eq_true rfl) trivial (Nat.le_of_ble_eq_true rfl) ?_
    refine GoC.pop dX4_takeBack_53 (G.rv_cat _) ?_
    cases h
    exact GoC.vret dX4_takeBack_54 rfl
  · cases h
    exact GoC.vret dX4_takeBack_14 rfl
set_option maxRecDepth 20000 in
theorem ktX4_takeBack {l : Launch} {G : Gt} {σ : Hp} (x0 : Nat) (x1 : Nat) : ∀ Z, kX4_takeBack σ x0 x1 = some Z → MtC l G yX4_takeBack cX4_takeBack 3 none 9 223 [G.rv x0, G.rv x1] σ none Z := fun Z h => MtC.at (by decide +kernel) ⟨G.rv_cat _, G.rv_cat _, trivial⟩ (Nat.le_of_ble_eq_true rfl) (ksX4_takeBack x0 x1 h)
/-! Jx4a65c_clear_da8c8 -/
def kJx4a65c_clear_da8c8_27  : Nat → Nat → Int32 → Int32 → Hp → Option (Hp)
  | 0, _, _, _, _ => none
  | n + 1, x1, x2, x3, σ => if x2 ≤ x3 then some σ else (rst σ x1 x3 0).bind (fun σ1 => kJx4a65c_clear_da8c8_27 n x1 x2 (x3 + 1) σ1)
def kJx4a65c_clear_da8c8 (σ : Hp) (x0 : Nat) : Option (Hp) := (gfi σ 22 1200 x0).bind (fun v2 => (pfi σ 22 1200 x0 (v2 + 1)).bind (fun σ3 => (gfr σ3 22 1201 x0).bind (fun v4 => (gfi σ3 22 1202 x0).bind (fun v5 => (pfi σ3 22 1202 x0 0).bind (fun σ6 => kJx4a65c_clear_da8c8_27 FU v4 v5 0 σ6)))))
set_option maxRecDepth 20000 in
theorem ksJx4a65c_clear_da8c8_27 {l : Launch} {G : Gt} {n0 u0 : Nat} {Z : Hp} (n : Nat) : ∀ (x1 : Nat) (x2 : Int32) (x3 : Int32) (σ : Hp), kJx4a65c_clear_da8c8_27 n x1 x2 x3 σ = some Z → GoC l G RJx4a65c "clear" cJx4a65c_clear_da8c8 4 none 0 0 n0 u0 none Z 27 [(1, G.rv x1), (2, .int x2), (3, .int x3)] [] σ := by
  induction n with
  | zero => intro x1 x2 x3 σ h; rw [kJx4a65c_clear_da8c8_27] at h; cases h
  | succ n ih =>
    intro x1 x2 x3 σ h
    rw [kJx4a65c_clear_da8c8_27] at h
    refine GoC.iload_n 2 dJx4a65c_clear_da8c8_27 rfl ?_
    refine GoC.iload_n 1 dJx4a65c_clear_da8c8_28 rfl ?_
    refine GoC.icmp_ge 42 dJx4a65c_clear_da8c8_29 (by decide) h (fun h => ?_) (fun h => ?_)
    · cases h
      exact GoC.vret dJx4a65c_clear_da8c8_42 rfl
    · refine GC.aload_n 0 dJx4a65c_clear_da8c8_32 rfl ?_
      refine GoC.iload_n 2 dJx4a65c_clear_da8c8_33 rfl ?_
      refine GC.null dJx4a65c_clear_da8c8_34 ?_
      refine GC.aast dJx4a65c_clear_da8c8_35 h (fun σ1 h => ?_)
      refine GoC.iinc (w := 1) 2 [(1, G.rv x1), (2, .int x2), (3, .int (x3 + 1))] dJx4a65c_clear_da8c8_36 rfl (by decide) (by decide) rfl ?_
      refine GoC.goto 27 dJx4a65c_clear_da8c8_39 (by decide) ?_
      exact ih _ _ _ _ h
set_option maxRecDepth 20000 in
theorem ksJx4a65c_clear_da8c8 {l : Launch} {G : Gt} {n0 u0 : Nat} {σ : Hp} {Z : Hp} (x0 : Nat) (h : kJx4a65c_clear_da8c8 σ x0 = some Z) : GoC l G RJx4a65c "clear" cJx4a65c_clear_da8c8 4 none 0 0 n0 u0 none Z 0 [(0, G.rv x0)] [] σ := by
  unfold kJx4a65c_clear_da8c8 at h
  refine GC.aload_n 0 dJx4a65c_clear_da8c8_0 rfl ?_
  refine GoC.dup dJx4a65c_clear_da8c8_1 (G.rv_cat _) ?_
  refine GC.geti 12 0 rfl (by decide) (by decide) fw_Jx4a65c_63 (Or.inr fs_Jx4a65c_63) dJx4a65c_clear_da8c8_2 h (fun v2 h => ?_)
  refine GoC.iconst 1 dJx4a65c_clear_da8c8_5 (by decide) ?_
  refine GoC.iadd dJx4a65c_clear_da8c8_6 ?_
  refine GC.puti 12 0 rfl (by decide) (by decide) (rfl) fw_Jx4a65c_63 (Or.inr fs_Jx4a65c_63) (Or.inl rfl) dJx4a65c_clear_da8c8_7 h (fun σ3 h => ?_)
  refine GC.aload_n 0 dJx4a65c_clear_da8c8_10 rfl ?_
  refine GC.getr 12 1 rfl (by decide) (by decide) fw_Jx4a65c_9 (Or.inl rfl) dJx4a65c_clear_da8c8_11 h (fun v4 h => ?_)
  refine GC.astore_n [(0, G.rv x0), (1, G.rv v4)] dJx4a65c_clear_da8c8_14 (by decide) rfl ?_
  refine GC.aload_n 0 dJx4a65c_clear_da8c8_15 rfl ?_
  refine GC.geti 12 2 rfl (by decide) (by decide) fw_Jx4a65c_48 (Or.inl rfl) dJx4a65c_clear_da8c8_16 h (fun v5 h => ?_)
  refine GoC.istore_n [(0, G.rv x0), (1, G.rv v4), (2, .int v5)] dJx4a65c_clear_da8c8_19 (by decide) rfl ?_
  refine GC.aload_n 0 dJx4a65c_clear_da8c8_20 rfl ?_
  refine GoC.iconst 0 dJx4a65c_clear_da8c8_21 (by decide) ?_
  refine GC.dup_x1 dJx4a65c_clear_da8c8_22 (rfl) (G.rv_cat _) ?_
  refine GC.puti 12 2 rfl (by decide) (by decide) (rfl) fw_Jx4a65c_48 (Or.inl rfl) (Or.inl rfl) dJx4a65c_clear_da8c8_23 h (fun σ6 h => ?_)
  refine GoC.istore_n [(0, G.rv x0), (1, G.rv v4), (2, .int v5), (3, .int 0)] dJx4a65c_clear_da8c8_26 (by decide) rfl ?_
  refine GoC.sub [1, 2, 3] rfl ?_
  exact ksJx4a65c_clear_da8c8_27 _ _ _ _ _ h
set_option maxRecDepth 20000 in
theorem ktJx4a65c_clear_da8c8 {l : Launch} {G : Gt} {σ : Hp} (x0 : Nat) : ∀ Z, kJx4a65c_clear_da8c8 σ x0 = some Z → MtC l G yJx4a65c_clear_da8c8 cJx4a65c_clear_da8c8 4 none 0 0 [G.rv x0] σ none Z := fun Z h => MtC.at (by decide +kernel) ⟨G.rv_cat _, trivial⟩ (Nat.le_of_ble_eq_true rfl) (ksJx4a65c_clear_da8c8 x0 h)
/-! X4_setImage -/
def kX4_setImage_51  : Nat → Nat → Int32 → Hp → Option (Hp)
  | 0, _, _, _ => none
  | n + 1, x0, x2, σ => (gfr σ 14 401 x0).bind (fun v1 => ckd σ v1 22 ((kJx4a65c_size_8abf5 σ v1).bind (fun v2 => if v2 ≤ x2 then some σ else (gfr σ 14 401 x0).bind (fun v3 => ckd σ v3 22 ((kJx4a65c_get_915e3 σ v3 x2).bind (fun v4 => ckc σ v4 17 ((pfz σ 17 712 v4 1).bind (fun σ5 => (gfr σ5 14 402 x0).bind (fun v6 => (gfr σ5 14 401 x0).bind (fun v7 => ckd σ5 v7 22 ((kJx4a65c_get_915e3 σ5 v7 x2).bind (fun v8 => ckc σ5 v8 17 (ckd σ5 v6 22 (bd2 (kJx4a65c_add_9ea2d σ5 v6 v8) (fun v9 σ10 => kX4_setImage_51 n x0 (x2 + 1) σ10)))))))))))))))
def kX4_setImage_10  : Nat → Nat → Int32 → Hp → Option (Hp)
  | 0, _, _, _ => none
  | n + 1, x0, x2, σ => (gfr σ 14 402 x0).bind (fun v11 => ckd σ v11 22 ((kJx4a65c_size_8abf5 σ v11).bind (fun v12 => if v12 ≤ x2 then (gfr σ 14 402 x0).bind (fun v13 => ckd σ v13 22 ((kJx4a65c_clear_da8c8 σ v13).bind (fun σ14 => kX4_setImage_51 FU x0 0 σ14))) else (gfr σ 14 402 x0).bind (fun v15 => ckd σ v15 22 ((kJx4a65c_get_915e3 σ v15 x2).bind (fun v16 => ckc σ v16 17 ((pfz σ 17 712 v16 0).bind (fun σ17 => kX4_setImage_10 n x0 (x2 + 1) σ17))))))))
def kX4_setImage (σ : Hp) (x0 : Nat) (x1 : Nat) : Option (Hp) := (gfr σ 14 403 x0).bind (fun v18 => ckd σ v18 17 ((kX7_copyFrom σ v18 x1).bind (fun σ19 => kX4_setImage_10 FU x0 0 σ19)))
set_option maxRecDepth 20000 in
theorem ksX4_setImage_51 {l : Launch} {G : Gt} {n0 u0 : Nat} {Z : Hp} (n : Nat) : ∀ (x0 : Nat) (x2 : Int32) (σ : Hp), kX4_setImage_51 n x0 x2 σ = some Z → GoC l G RX4 "setImage" cX4_setImage 3 none 9 223 n0 u0 none Z 51 [(0, G.rv x0), (2, .int x2)] [] σ := by
  induction n with
  | zero => intro x0 x2 σ h; rw [kX4_setImage_51] at h; cases h
  | succ n ih =>
    intro x0 x2 σ h
    rw [kX4_setImage_51] at h
    refine GoC.iload_n 1 dX4_setImage_51 rfl ?_
    refine GC.aload_n 0 dX4_setImage_52 rfl ?_
    refine GC.getr 4 1 rfl (by decide) (by decide) fw_X4_18 (Or.inl rfl) dX4_setImage_53 h (fun v1 h => ?_)
    obtain ⟨h0, h⟩ := ckd_some h
    obtain ⟨v2, hq, h⟩ := Option.bind_eq_some_iff.mp h
    refine GC.callvI (rest := [.int x2]) 12 rfl h0 rfl [] dX4_setImage_56 kk_X4_31 km_Jx4a65c_size_8abf5.1 km_Jx4a65c_size_8abf5.2 (ktJx4a65c_size_8abf5 _ _ hq) rfl rfl (Nat.le_of_ble_eq_true rfl) (Nat.le_of_ble_eq_true rfl) ⟨rfl, trivial⟩ (Nat.le_of_ble_eq_true rfl) ?_
    refine GoC.icmp_ge 102 dX4_setImage_59 (by decide) h (fun h => ?_) (fun h => ?_)
    · cases h
      exact GoC.vret dX4_setImage_102 rfl
    · refine GC.aload_n 0 dX4_setImage_62 rfl ?_
      refine GC.getr 4 1 rfl (by decide) (by decide) fw_X4_18 (Or.inl rfl) dX4_setImage_63 h (fun v3 h => ?_)
      refine GoC.iload_n 1 dX4_setImage_66 rfl ?_
      obtain ⟨h0, h⟩ := ckd_some h
      obtain ⟨v4, hq, h⟩ := Option.bind_eq_some_iff.mp h
      refine GC.callvR (rest := []) 12 rfl h0 rfl [.int x2] dX4_setImage_67 kk_X4_35 km_Jx4a65c_get_915e3.1 km_Jx4a65c_get_915e3.2 (ktJx4a65c_get_915e3 _ _ _ hq) rfl rfl (Nat.le_of_ble_eq_true rfl) (Nat.le_of_ble_eq_true rfl) trivial (Nat.le_of_ble_eq_true rfl) ?_
      refine GC.castS (c := 7) rfl cl_X4_24 dX4_setImage_70 h (fun h => ?_)
      refine GoC.iconst 1 dX4_setImage_73 (by decide) ?_
      refine GC.putz 7 12 rfl (by decide) (by decide) (rfl) fw_X4_58 (Or.inl rfl) (Or.inl rfl) dX4_setImage_74 h (fun σ5 h => ?_)
      refine GC.aload_n 0 dX4_setImage_77 rfl ?_
      refine GC.getr 4 2 rfl (by decide) (by decide) fw_X4_21 (Or.inl rfl) dX4_setImage_78 h (fun v6 h => ?_)
      refine GC.aload_n 0 dX4_setImage_81 rfl ?_
      refine GC.getr 4 1 rfl (by decide) (by decide) fw_X4_18 (Or.inl rfl) dX4_setImage_82 h (fun v7 h => ?_)
      refine GoC.iload_n 1 dX4_setImage_85 rfl ?_
      obtain ⟨h0, h⟩ := ckd_some h
      obtain ⟨v8, hq, h⟩ := Option.bind_eq_some_iff.mp h
      refine GC.callvR (rest := [G.rv v6]) 12 rfl h0 rfl [.int x2] dX4_setImage_86 kk_X4_35 km_Jx4a65c_get_915e3.1 km_Jx4a65c_get_915e3.2 (ktJx4a65c_get_915e3 _ _ _ hq) rfl rfl (Nat.le_of_ble_eq_true rfl) (Nat.le_of_ble_eq_true rfl) ⟨G.rv_cat _, trivial⟩ (Nat.le_of_ble_eq_true rfl) ?_
      refine GC.castS (c := 7) rfl cl_X4_24 dX4_setImage_89 h (fun h => ?_)
      obtain ⟨h0, h⟩ := ckd_some h
      obtain ⟨v9, σ10, hq, h⟩ := bd2_some h
      refine GC.callvI (rest := []) 12 rfl h0 rfl [G.rv v8] dX4_setImage_92 kk_X4_54 km_Jx4a65c_add_9ea2d.1 km_Jx4a65c_add_9ea2d.2 (ktJx4a65c_add_9ea2d _ _ _ hq) rfl rfl (Nat.le_of_ble_eq_true rfl) (Nat.le_of_ble_eq_true rfl) trivial (Nat.le_of_ble_eq_true rfl) ?_
      refine GoC.pop dX4_setImage_95 (rfl) ?_
      refine GoC.iinc (w := 1) 1 [(0, G.rv x0), (2, .int (x2 + 1))] dX4_setImage_96 rfl (by decide) (by decide) rfl ?_
      refine GoC.goto 51 dX4_setImage_99 (by decide) ?_
      exact ih _ _ _ h
set_option maxRecDepth 20000 in
theorem ksX4_setImage_10 {l : Launch} {G : Gt} {n0 u0 : Nat} {Z : Hp} (n : Nat) : ∀ (x0 : Nat) (x2 : Int32) (σ : Hp), kX4_setImage_10 n x0 x2 σ = some Z → GoC l G RX4 "setImage" cX4_setImage 3 none 9 223 n0 u0 none Z 10 [(0, G.rv x0), (2, .int x2)] [] σ := by
  induction n with
  | zero => intro x0 x2 σ h; rw [kX4_setImage_10] at h; cases h
  | succ n ih =>
    intro x0 x2 σ h
    rw [kX4_setImage_10] at h
    refine GoC.iload_n 1 dX4_setImage_10 rfl ?_
    refine GC.aload_n 0 dX4_setImage_11 rfl ?_
    refine GC.getr 4 2 rfl (by decide) (by decide) fw_X4_21 (Or.inl rfl) dX4_setImage_12 h (fun v11 h => ?_)
    obtain ⟨h0, h⟩ := ckd_some h
    obtain ⟨v12, hq, h⟩ := Option.bind_eq_some_iff.mp h
    refine GC.callvI (rest := [.int x2]) 12 rfl h0 rfl [] dX4_setImage_15 kk_X4_31 km_Jx4a65c_size_8abf5.1 km_Jx4a65c_size_8abf5.2 (ktJx4a65c_size_8abf5 _ _ hq) rfl rfl (Nat.le_of_ble_eq_true rfl) (Nat.le_of_ble_eq_true rfl) ⟨rfl, trivial⟩ (Nat.le_of_ble_eq_true rfl) ?_
    refine GoC.icmp_ge 42 dX4_setImage_18 (by decide) h (fun h => ?_) (fun h => ?_)
    · refine GC.aload_n 0 dX4_setImage_42 rfl ?_
      refine GC.getr 4 2 rfl (by decide) (by decide) fw_X4_21 (Or.inl rfl) dX4_setImage_43 h (fun v13 h => ?_)
      obtain ⟨h0, h⟩ := ckd_some h
      obtain ⟨σ14, hq, h⟩ := Option.bind_eq_some_iff.mp h
      refine GC.callvV (rest := []) 12 rfl h0 rfl [] dX4_setImage_46 kk_X4_61 km_Jx4a65c_clear_da8c8.1 km_Jx4a65c_clear_da8c8.2 (ktJx4a65c_clear_da8c8 _ _ hq) rfl rfl (Nat.le_of_ble_eq_true rfl) (Nat.le_of_ble_eq_true rfl) trivial (Nat.le_of_ble_eq_true rfl) ?_
      refine GoC.iconst 0 dX4_setImage_49 (by decide) ?_
      refine GoC.istore_n [(0, G.rv x0), (2, .int 0)] dX4_setImage_50 (by decide) rfl ?_
      exact ksX4_setImage_51 _ _ _ _ h
    · refine GC.aload_n 0 dX4_setImage_21 rfl ?_
      refine GC.getr 4 2 rfl (by decide) (by decide) fw_X4_21 (Or.inl rfl) dX4_setImage_22 h (fun v15 h => ?_)
      refine GoC.iload_n 1 dX4_setImage_25 rfl ?_
      obtain ⟨h0, h⟩ := ckd_some h
      obtain ⟨v16, hq, h⟩ := Option.bind_eq_some_iff.mp h
      refine GC.callvR (rest := []) 12 rfl h0 rfl [.int x2] dX4_setImage_26 kk_X4_35 km_Jx4a65c_get_915e3.1 km_Jx4a65c_get_915e3.2 (ktJx4a65c_get_915e3 _ _ _ hq) rfl rfl (Nat.le_of_ble_eq_true rfl) (Nat.le_of_ble_eq_true rfl) trivial (Nat.le_of_ble_eq_true rfl) ?_
      refine GC.castS (c := 7) rfl cl_X4_24 dX4_setImage_29 h (fun h => ?_)
      refine GoC.iconst 0 dX4_setImage_32 (by decide) ?_
      refine GC.putz 7 12 rfl (by decide) (by decide) (rfl) fw_X4_58 (Or.inl rfl) (Or.inl rfl) dX4_setImage_33 h (fun σ17 h => ?_)
      refine GoC.iinc (w := 1) 1 [(0, G.rv x0), (2, .int (x2 + 1))] dX4_setImage_36 rfl (by decide) (by decide) rfl ?_
      refine GoC.goto 10 dX4_setImage_39 (by decide) ?_
      exact ih _ _ _ h
set_option maxRecDepth 20000 in
theorem ksX4_setImage {l : Launch} {G : Gt} {n0 u0 : Nat} {σ : Hp} {Z : Hp} (x0 : Nat) (x1 : Nat) (h : kX4_setImage σ x0 x1 = some Z) : GoC l G RX4 "setImage" cX4_setImage 3 none 9 223 n0 u0 none Z 0 [(0, G.rv x0), (1, G.rv x1)] [] σ := by
  unfold kX4_setImage at h
  refine GC.aload_n 0 dX4_setImage_0 rfl ?_
  refine GC.getr 4 3 rfl (by decide) (by decide) fw_X4_27 (Or.inl rfl) dX4_setImage_1 h (fun v18 h => ?_)
  refine GC.aload_n 1 dX4_setImage_4 rfl ?_
  obtain ⟨h0, h⟩ := ckd_some h
  obtain ⟨σ19, hq, h⟩ := Option.bind_eq_some_iff.mp h
  refine GC.callvV (rest := []) 7 rfl h0 rfl [G.rv x1] dX4_setImage_5 kk_X4_50 km_X7_copyFrom.1 km_X7_copyFrom.2 (ktX7_copyFrom _ _ _ hq) rfl rfl (Nat.le_of_ble_eq_true rfl) (Nat.le_of_ble_eq_true rfl) trivial (Nat.le_of_ble_eq_true rfl) ?_
  refine GoC.iconst 0 dX4_setImage_8 (by decide) ?_
  refine GoC.istore_n [(0, G.rv x0), (1, G.rv x1), (2, .int 0)] dX4_setImage_9 (by decide) rfl ?_
  refine GoC.sub [0, 2] rfl ?_
  exact ksX4_setImage_10 _ _ _ _ h
set_option maxRecDepth 20000 in
theorem ktX4_setImage {l : Launch} {G : Gt} {σ : Hp} (x0 : Nat) (x1 : Nat) : ∀ Z, kX4_setImage σ x0 x1 = some Z → MtC l G yX4_setImage cX4_setImage 3 none 9 223 [G.rv x0, G.rv x1] σ none Z := fun Z h => MtC.at (by decide +kernel) ⟨G.rv_cat _, G.rv_cat _, trivial⟩ (Nat.le_of_ble_eq_true rfl) (ksX4_setImage x0 x1 h)
/-! X4_goBack -/
def kX4_goBack_51  : Nat → Nat → Int32 → Hp → Option (Hp)
  | 0, _, _, _ => none
  | n + 1, x0, x2, σ => (gfr σ 14 402 x0).bind (fun v1 => ckd σ v1 22 ((kJx4a65c_size_8abf5 σ v1).bind (fun v2 => if v2 ≤ x2 then some σ else (gfr σ 14 402 x0).bind (fun v3 => ckd σ v3 22 ((kJx4a65c_get_915e3 σ v3 x2).bind (fun v4 => ckc σ v4 17 ((pfz σ 17 711 v4 1).bind (fun σ5 => (gfr σ5 14 401 x0).bind (fun v6 => (gfr σ5 14 402 x0).bind (fun v7 => ckd σ5 v7 22 ((kJx4a65c_get_915e3 σ5 v7 x2).bind (fun v8 => ckc σ5 v8 17 (ckd σ5 v6 22 (bd2 (kJx4a65c_add_9ea2d σ5 v6 v8) (fun v9 σ10 => kX4_goBack_51 n x0 (x2 + 1) σ10)))))))))))))))
def kX4_goBack_10  : Nat → Nat → Int32 → Hp → Option (Hp)
  | 0, _, _, _ => none
  | n + 1, x0, x2, σ => (gfr σ 14 401 x0).bind (fun v11 => ckd σ v11 22 ((kJx4a65c_size_8abf5 σ v11).bind (fun v12 => if v12 ≤ x2 then (gfr σ 14 401 x0).bind (fun v13 => ckd σ v13 22 ((kJx4a65c_clear_da8c8 σ v13).bind (fun σ14 => kX4_goBack_51 FU x0 0 σ14))) else (gfr σ 14 401 x0).bind (fun v15 => ckd σ v15 22 ((kJx4a65c_get_915e3 σ v15 x2).bind (fun v16 => ckc σ v16 17 ((pfz σ 17 711 v16 0).bind (fun σ17 => kX4_goBack_10 n x0 (x2 + 1) σ17))))))))
def kX4_goBack (σ : Hp) (x0 : Nat) (x1 : Nat) : Option (Hp) := (gfr σ 14 403 x0).bind (fun v18 => ckd σ x1 17 ((kX7_copyFrom σ x1 v18).bind (fun σ19 => kX4_goBack_10 FU x0 0 σ19)))
set_option maxRecDepth 20000 in
theorem ksX4_goBack_51 {l : Launch} {G : Gt} {n0 u0 : Nat} {Z : Hp} (n : Nat) : ∀ (x0 : Nat) (x2 : Int32) (σ : Hp), kX4_goBack_51 n x0 x2 σ = some Z → GoC l G RX4 "goBack" cX4_goBack 3 none 9 223 n0 u0 none Z 51 [(0, G.rv x0), (2, .int x2)] [] σ := by
  induction n with
  | zero => intro x0 x2 σ h; rw [kX4_goBack_51] at h; cases h
  | succ n ih =>
    intro x0 x2 σ h
    rw [kX4_goBack_51] at h
    refine GoC.iload_n 1 dX4_goBack_51 rfl ?_
    refine GC.aload_n 0 dX4_goBack_52 rfl ?_
    refine GC.getr 4 2 rfl (by decide) (by decide) fw_X4_21 (Or.inl rfl) dX4_goBack_53 h (fun v1 h => ?_)
    obtain ⟨h0, h⟩ := ckd_some h
    obtain ⟨v2, hq, h⟩ := Option.bind_eq_some_iff.mp h
    refine GC.callvI (rest := [.int x2]) 12 rfl h0 rfl [] dX4_goBack_56 kk_X4_31 km_Jx4a65c_size_8abf5.1 km_Jx4a65c_size_8abf5.2 (ktJx4a65c_size_8abf5 _ _ hq) rfl rfl (Nat.le_of_ble_eq_true rfl) (Nat.le_of_ble_eq_true rfl) ⟨rfl, trivial⟩ (Nat.le_of_ble_eq_true rfl) ?_
    refine GoC.icmp_ge 102 dX4_goBack_59 (by decide) h (fun h => ?_) (fun h => ?_)
    · cases h
      exact GoC.vret dX4_goBack_102 rfl
    · refine GC.aload_n 0 dX4_goBack_62 rfl ?_
      refine GC.getr 4 2 rfl (by decide) (by decide) fw_X4_21 (Or.inl rfl) dX4_goBack_63 h (fun v3 h => ?_)
      refine GoC.iload_n 1 dX4_goBack_66 rfl ?_
      obtain ⟨h0, h⟩ := ckd_some h
      obtain ⟨v4, hq, h⟩ := Option.bind_eq_some_iff.mp h
      refine GC.callvR (rest := []) 12 rfl h0 rfl [.int x2] dX4_goBack_67 kk_X4_35 km_Jx4a65c_get_915e3.1 km_Jx4a65c_get_915e3.2 (ktJx4a65c_get_915e3 _ _ _ hq) rfl rfl (Nat.le_of_ble_eq_true rfl) (Nat.le_of_ble_eq_true rfl) trivial (Nat.le_of_ble_eq_true rfl) ?_
      refine GC.castS (c := 7) rfl cl_X4_24 dX4_goBack_70 h (fun h => ?_)
      refine GoC.iconst 1 dX4_goBack_73 (by decide) ?_
      refine GC.putz 7 11 rfl (by decide) (by decide) (rfl) fw_X4_39 (Or.inl rfl) (Or.inl rfl) dX4_goBack_74 h (fun σ5 h => ?_)
      refine GC.aload_n 0 dX4_goBack_77 rfl ?_
      refine GC.getr 4 1 rfl (by decide) (by decide) fw_X4_18 (Or.inl rfl) dX4_goBack_78 h (fun v6 h => ?_)
      refine GC.aload_n 0 dX4_goBack_81 rfl ?_
      refine GC.getr 4 2 rfl (by decide) (by decide) fw_X4_21 (Or.inl rfl) dX4_goBack_82 h (fun v7 h => ?_)
      refine GoC.iload_n 1 dX4_goBack_85 rfl ?_
      obtain ⟨h0, h⟩ := ckd_some h
      obtain ⟨v8, hq, h⟩ := Option.bind_eq_some_iff.mp h
      refine GC.callvR (rest := [G.rv v6]) 12 rfl h0 rfl [.int x2] dX4_goBack_86 kk_X4_35 km_Jx4a65c_get_915e3.1 km_Jx4a65c_get_915e3.2 (ktJx4a65c_get_915e3 _ _ _ hq) rfl rfl (Nat.le_of_ble_eq_true rfl) (Nat.le_of_ble_eq_true rfl) ⟨G.rv_cat _, trivial⟩ (Nat.le_of_ble_eq_true rfl) ?_
      refine GC.castS (c := 7) rfl cl_X4_24 dX4_goBack_89 h (fun h => ?_)
      obtain ⟨h0, h⟩ := ckd_some h
      obtain ⟨v9, σ10, hq, h⟩ := bd2_some h
      refine GC.callvI (rest := []) 12 rfl h0 rfl [G.rv v8] dX4_goBack_92 kk_X4_54 km_Jx4a65c_add_9ea2d.1 km_Jx4a65c_add_9ea2d.2 (ktJx4a65c_add_9ea2d _ _ _ hq) rfl rfl (Nat.le_of_ble_eq_true rfl) (Nat.le_of_ble_eq_true rfl) trivial (Nat.le_of_ble_eq_true rfl) ?_
      refine GoC.pop dX4_goBack_95 (rfl) ?_
      refine GoC.iinc (w := 1) 1 [(0, G.rv x0), (2, .int (x2 + 1))] dX4_goBack_96 rfl (by decide) (by decide) rfl ?_
      refine GoC.goto 51 dX4_goBack_99 (by decide) ?_
      exact ih _ _ _ h
set_option maxRecDepth 20000 in
theorem ksX4_goBack_10 {l : Launch} {G : Gt} {n0 u0 : Nat} {Z : Hp} (n : Nat) : ∀ (x0 : Nat) (x2 : Int32) (σ : Hp), kX4_goBack_10 n x0 x2 σ = some Z → GoC l G RX4 "goBack" cX4_goBack 3 none 9 223 n0 u0 none Z 10 [(0, G.rv x0), (2, .int x2)] [] σ := by
  induction n with
  | zero => intro x0 x2 σ h; rw [kX4_goBack_10] at h; cases h
  | succ n ih =>
    intro x0 x2 σ h
    rw [kX4_goBack_10] at h
    refine GoC.iload_n 1 dX4_goBack_10 rfl ?_
    refine GC.aload_n 0 dX4_goBack_11 rfl ?_
    refine GC.getr 4 1 rfl (by decide) (by decide) fw_X4_18 (Or.inl rfl) dX4_goBack_12 h (fun v11 h => ?_)
    obtain ⟨h0, h⟩ := ckd_some h
    obtain ⟨v12, hq, h⟩ := Option.bind_eq_some_iff.mp h
    refine GC.callvI (rest := [.int x2]) 12 rfl h0 rfl [] dX4_goBack_15 kk_X4_31 km_Jx4a65c_size_8abf5.1 km_Jx4a65c_size_8abf5.2 (ktJx4a65c_size_8abf5 _ _ hq) rfl rfl (Nat.le_of_ble_eq_true rfl) (Nat.le_of_ble_eq_true rfl) ⟨rfl, trivial⟩ (Nat.le_of_ble_eq_true rfl) ?_
    refine GoC.icmp_ge 42 dX4_goBack_18 (by decide) h (fun h => ?_) (fun h => ?_)
    · refine GC.aload_n 0 dX4_goBack_42 rfl ?_
      refine GC.getr 4 1 rfl (by decide) (by decide) fw_X4_18 (Or.inl rfl) dX4_goBack_43 h (fun v13 h => ?_)
      obtain ⟨h0, h⟩ := ckd_some h
      obtain ⟨σ14, hq, h⟩ := Option.bind_eq_some_iff.mp h
      refine GC.callvV (rest := []) 12 rfl h0 rfl [] dX4_goBack_46 kk_X4_61 km_Jx4a65c_clear_da8c8.1 km_Jx4a65c_clear_da8c8.2 (ktJx4a65c_clear_da8c8 _ _ hq) rfl rfl (Nat.le_of_ble_eq_true rfl) (Nat.le_of_ble_eq_true rfl) trivial (Nat.le_of_ble_eq_true rfl) ?_
      refine GoC.iconst 0 dX4_goBack_49 (by decide) ?_
      refine GoC.istore_n [(0, G.rv x0), (2, .int 0)] dX4_goBack_50 (by decide) rfl ?_
      exact ksX4_goBack_51 _ _ _ _ h
    · refine GC.aload_n 0 dX4_goBack_21 rfl ?_
      refine GC.getr 4 1 rfl (by decide) (by decide) fw_X4_18 (Or.inl rfl) dX4_goBack_22 h (fun v15 h => ?_)
      refine GoC.iload_n 1 dX4_goBack_25 rfl ?_
      obtain ⟨h0, h⟩ := ckd_some h
      obtain ⟨v16, hq, h⟩ := Option.bind_eq_some_iff.mp h
      refine GC.callvR (rest := []) 12 rfl h0 rfl [.int x2] dX4_goBack_26 kk_X4_35 km_Jx4a65c_get_915e3.1 km_Jx4a65c_get_915e3.2 (ktJx4a65c_get_915e3 _ _ _ hq) rfl rfl (Nat.le_of_ble_eq_true rfl) (Nat.le_of_ble_eq_true rfl) trivial (Nat.le_of_ble_eq_true rfl) ?_
      refine GC.castS (c := 7) rfl cl_X4_24 dX4_goBack_29 h (fun h => ?_)
      refine GoC.iconst 0 dX4_goBack_32 (by decide) ?_
      refine GC.putz 7 11 rfl (by decide) (by decide) (rfl) fw_X4_39 (Or.inl rfl) (Or.inl rfl) dX4_goBack_33 h (fun σ17 h => ?_)
      refine GoC.iinc (w := 1) 1 [(0, G.rv x0), (2, .int (x2 + 1))] dX4_goBack_36 rfl (by decide) (by decide) rfl ?_
      refine GoC.goto 10 dX4_goBack_39 (by decide) ?_
      exact ih _ _ _ h
set_option maxRecDepth 20000 in
theorem ksX4_goBack {l : Launch} {G : Gt} {n0 u0 : Nat} {σ : Hp} {Z : Hp} (x0 : Nat) (x1 : Nat) (h : kX4_goBack σ x0 x1 = some Z) : GoC l G RX4 "goBack" cX4_goBack 3 none 9 223 n0 u0 none Z 0 [(0, G.rv x0), (1, G.rv x1)] [] σ := by
  unfold kX4_goBack at h
  refine GC.aload_n 1 dX4_goBack_0 rfl ?_
  refine GC.aload_n 0 dX4_goBack_1 rfl ?_
  refine GC.getr 4 3 rfl (by decide) (by decide) fw_X4_27 (Or.inl rfl) dX4_goBack_2 h (fun v18 h => ?_)
  obtain ⟨h0, h⟩ := ckd_some h
  obtain ⟨σ19, hq, h⟩ := Option.bind_eq_some_iff.mp h
  refine GC.callvV (rest := []) 7 rfl h0 rfl [G.rv v18] dX4_goBack_5 kk_X4_50 km_X7_copyFrom.1 km_X7_copyFrom.2 (ktX7_copyFrom _ _ _ hq) rfl rfl (Nat.le_of_ble_eq_true rfl) (Nat.le_of_ble_eq_true rfl) trivial (Nat.le_of_ble_eq_true rfl) ?_
  refine GoC.iconst 0 dX4_goBack_8 (by decide) ?_
  refine GoC.istore_n [(0, G.rv x0), (1, G.rv x1), (2, .int 0)] dX4_goBack_9 (by decide) rfl ?_
  refine GoC.sub [0, 2] rfl ?_
  exact ksX4_goBack_10 _ _ _ _ h
set_option maxRecDepth 20000 in
theorem ktX4_goBack {l : Launch} {G : Gt} {σ : Hp} (x0 : Nat) (x1 : Nat) : ∀ Z, kX4_goBack σ x0 x1 = some Z → MtC l G yX4_goBack cX4_goBack 3 none 9 223 [G.rv x0, G.rv x1] σ none Z := fun Z h => MtC.at (by decide +kernel) ⟨G.rv_cat _, G.rv_cat _, trivial⟩ (Nat.le_of_ble_eq_true rfl) (ksX4_goBack x0 x1 h)
/-! X5_init -/
def kX5_init (σ : Hp) (x0 : Nat) : Option (Hp) := (nz x0).bind (fun _ => bd2 (nwA σ 1 400) (fun v1 σ2 => (pfr σ2 15 500 x0 v1).bind (fun σ3 => some σ3)))
set_option maxRecDepth 20000 in
theorem ksX5_init {l : Launch} {G : Gt} {n0 u0 : Nat} {σ : Hp} {Z : Hp} (x0 : Nat) (h : kX5_init σ x0 = some Z) : GoC l G RX5 "<init>" cX5_init 1 none 1 20 n0 u0 none Z 0 [(0, G.rv x0)] [] σ := by
  unfold kX5_init at h
  refine GC.aload_n 0 dX5_init_0 rfl ?_
  obtain ⟨_, h0, h⟩ := Option.bind_eq_some_iff.mp h
  refine GC.oinit (nz_ne h0) oi_X5_3 oi_inst oi_code dX5_init_1 (Nat.le_of_ble_eq_true rfl) trivial (Nat.le_of_ble_eq_true rfl) ?_
  refine GC.aload_n 0 dX5_init_4 rfl ?_
  refine GoC.sipush 400 dX5_init_5 (by decide) ?_
  refine GC.newI ac_int dX5_init_8 h (fun v1 σ2 h => ?_)
  refine GC.putr 5 0 rfl (by decide) (by decide) (Or.inr ⟨_, rfl⟩) fw_X5_9 (Or.inl rfl) (Or.inr ⟨rfl, rfl, rfl⟩) dX5_init_10 h (fun σ3 h => ?_)
  cases h
  exact GoC.vret dX5_init_13 rfl
set_option maxRecDepth 20000 in
theorem ktX5_init {l : Launch} {G : Gt} {σ : Hp} (x0 : Nat) : ∀ Z, kX5_init σ x0 = some Z → MtC l G yX5_init cX5_init 1 none 1 20 [G.rv x0] σ none Z := fun Z h => MtC.at (by decide +kernel) ⟨G.rv_cat _, trivial⟩ (Nat.le_of_ble_eq_true rfl) (ksX5_init x0 h)
/-! X5_addByte -/
def kX5_addByte (σ : Hp) (x0 : Nat) (x1 : Int32) : Option (Hp) := (gfi σ 15 501 x0).bind (fun v1 => if 400 ≤ v1 then some σ else (gfr σ 15 500 x0).bind (fun v2 => (gfi σ 15 501 x0).bind (fun v3 => (ast σ 1 v2 v3 x1).bind (fun σ4 => (gfi σ4 15 501 x0).bind (fun v5 => (pfi σ4 15 501 x0 (v5 + 1)).bind (fun σ6 => some σ6))))))
set_option maxRecDepth 20000 in
theorem ksX5_addByte {l : Launch} {G : Gt} {n0 u0 : Nat} {σ : Hp} {Z : Hp} (x0 : Nat) (x1 : Int32) (h : kX5_addByte σ x0 x1 = some Z) : GoC l G RX5 "addByte" cX5_addByte 2 none 0 0 n0 u0 none Z 0 [(0, G.rv x0), (1, .int x1)] [] σ := by
  unfold kX5_addByte at h
  refine GC.aload_n 0 dX5_addByte_0 rfl ?_
  refine GC.geti 5 1 rfl (by decide) (by decide) fw_X5_15 (Or.inl rfl) dX5_addByte_1 h (fun v1 h => ?_)
  refine GoC.sipush 400 dX5_addByte_4 (by decide) ?_
  refine GoC.icmp_ge 30 dX5_addByte_7 (by decide) h (fun h => ?_) (fun h => ?_)
  · cases h
    exact GoC.vret dX5_addByte_30 rfl
  · refine GC.aload_n 0 dX5_addByte_10 rfl ?_
    refine GC.getr 5 0 rfl (by decide) (by decide) fw_X5_9 (Or.inl rfl) dX5_addByte_11 h (fun v2 h => ?_)
    refine GC.aload_n 0 dX5_addByte_14 rfl ?_
    refine GC.geti 5 1 rfl (by decide) (by decide) fw_X5_15 (Or.inl rfl) dX5_addByte_15 h (fun v3 h => ?_)
    refine GoC.iload_n 1 dX5_addByte_18 rfl ?_
    refine GC.iast dX5_addByte_19 h (fun σ4 h => ?_)
    refine GC.aload_n 0 dX5_addByte_20 rfl ?_
    refine GoC.dup dX5_addByte_21 (G.rv_cat _) ?_
    refine GC.geti 5 1 rfl (by decide) (by decide) fw_X5_15 (Or.inl rfl) dX5_addByte_22 h (fun v5 h => ?_)
    refine GoC.iconst 1 dX5_addByte_25 (by decide) ?_
    refine GoC.iadd dX5_addByte_26 ?_
    refine GC.puti 5 1 rfl (by decide) (by decide) (rfl) fw_X5_15 (Or.inl rfl) (Or.inl rfl) dX5_addByte_27 h (fun σ6 h => ?_)
    cases h
    exact GoC.vret dX5_addByte_30 rfl
set_option maxRecDepth 20000 in
theorem ktX5_addByte {l : Launch} {G : Gt} {σ : Hp} (x0 : Nat) (x1 : Int32) : ∀ Z, kX5_addByte σ x0 x1 = some Z → MtC l G yX5_addByte cX5_addByte 2 none 0 0 [G.rv x0, .int x1] σ none Z := fun Z h => MtC.at (by decide +kernel) ⟨G.rv_cat _, rfl, trivial⟩ (Nat.le_of_ble_eq_true rfl) (ksX5_addByte x0 x1 h)
/-! X5_addNumber -/
def kX5_addNumber_20  (x0 : Nat) (x1 : Int32) (σ : Hp) : Option (Hp) := ckd σ x0 15 ((kX5_addByte σ x0 (48 + (x1 - x1 / 10 * 10))).bind (fun σ1 => some σ1))
def kX5_addNumber (σ : Hp) (x0 : Nat) (x1 : Int32) : Option (Hp) := if x1 < 10 then kX5_addNumber_20 x0 x1 σ else ckd σ x0 15 ((kX5_addByte σ x0 (48 + ((x1 / 10) - (x1 / 10) / 10 * 10))).bind (fun σ2 => kX5_addNumber_20 x0 x1 σ2))
set_option maxRecDepth 20000 in
theorem ksX5_addNumber_20 {l : Launch} {G : Gt} {n0 u0 : Nat} {Z : Hp} (x0 : Nat) (x1 : Int32) (σ : Hp) (h : kX5_addNumber_20 x0 x1 σ = some Z) : GoC l G RX5 "addNumber" cX5_addNumber 2 none 1 21 n0 u0 none Z 20 [(0, G.rv x0), (1, .int x1)] [] σ := by
  unfold kX5_addNumber_20 at h
  refine GC.aload_n 0 dX5_addNumber_20 rfl ?_
  refine GoC.bipush 48 dX5_addNumber_21 (by decide) ?_
  refine GoC.iload_n 1 dX5_addNumber_23 rfl ?_
  refine GoC.bipush 10 dX5_addNumber_24 (by decide) ?_
  refine GoC.irem dX5_addNumber_26 (by decide) ?_
  refine GoC.iadd dX5_addNumber_27 ?_
  obtain ⟨h0, h⟩ := ckd_some h
  obtain ⟨σ1, hq, h⟩ := Option.bind_eq_some_iff.mp h
  refine GC.callvV (rest := []) 5 rfl h0 rfl [.int (48 + (x1 - x1 / 10 * 10))] dX5_addNumber_28 kk_X5_19 km_X5_addByte.1 km_X5_addByte.2 (ktX5_addByte _ _ _ hq) rfl rfl (Nat.le_of_ble_eq_true rfl) (Nat.le_of_ble_eq_true rfl) trivial (Nat.le_of_ble_eq_true rfl) ?_
  cases h
  exact GoC.vret dX5_addNumber_31 rfl
set_option maxRecDepth 20000 in
theorem ksX5_addNumber {l : Launch} {G : Gt} {n0 u0 : Nat} {σ : Hp} {Z : Hp} (x0 : Nat) (x1 : Int32) (h : kX5_addNumber σ x0 x1 = some Z) : GoC l G RX5 "addNumber" cX5_addNumber 2 none 1 21 n0 u0 none Z 0 [(0, G.rv x0), (1, .int x1)] [] σ := by
  unfold kX5_addNumber at h
  refine GoC.iload_n 1 dX5_addNumber_0 rfl ?_
  refine GoC.bipush 10 dX5_addNumber_1 (by decide) ?_
  refine GoC.icmp_lt 20 dX5_addNumber_3 (by decide) h (fun h => ?_) (fun h => ?_)
  · exact ksX5_addNumber_20 _ _ _ h
  · refine GC.aload_n 0 dX5_addNumber_6 rfl ?_
    refine GoC.bipush 48 dX5_addNumber_7 (by decide) ?_
    refine GoC.iload_n 1 dX5_addNumber_9 rfl ?_
    refine GoC.bipush 10 dX5_addNumber_10 (by decide) ?_
    refine GoC.idiv dX5_addNumber_12 (by decide) ?_
    refine GoC.bipush 10 dX5_addNumber_13 (by decide) ?_
    refine GoC.irem dX5_addNumber_15 (by decide) ?_
    refine GoC.iadd dX5_addNumber_16 ?_
    obtain ⟨h0, h⟩ := ckd_some h
    obtain ⟨σ2, hq, h⟩ := Option.bind_eq_some_iff.mp h
    refine GC.callvV (rest := []) 5 rfl h0 rfl [.int (48 + ((x1 / 10) - (x1 / 10) / 10 * 10))] dX5_addNumber_17 kk_X5_19 km_X5_addByte.1 km_X5_addByte.2 (ktX5_addByte _ _ _ hq) rfl rfl (Nat.le_of_ble_eq_true rfl) (Nat.le_of_ble_eq_true rfl) trivial (Nat.le_of_ble_eq_true rfl) ?_
    exact ksX5_addNumber_20 _ _ _ h
set_option maxRecDepth 20000 in
theorem ktX5_addNumber {l : Launch} {G : Gt} {σ : Hp} (x0 : Nat) (x1 : Int32) : ∀ Z, kX5_addNumber σ x0 x1 = some Z → MtC l G yX5_addNumber cX5_addNumber 2 none 1 21 [G.rv x0, .int x1] σ none Z := fun Z h => MtC.at (by decide +kernel) ⟨G.rv_cat _, rfl, trivial⟩ (Nat.le_of_ble_eq_true rfl) (ksX5_addNumber x0 x1 h)
/-! X5_addOk -/
def kX5_addOk_27  (y0 : Nat) (y1 : Int32) (σ : Hp) : Option (Hp) := ckd σ y0 15 ((kX5_addByte σ y0 y1).bind (fun σ1 => some σ1))
def kX5_addOk_12  (x0 : Nat) (x1 : Int32) (y0 : Nat) (y1 : Int32) (σ : Hp) : Option (Hp) := ckd σ y0 15 ((kX5_addByte σ y0 y1).bind (fun σ2 => if x1 = 0 then kX5_addOk_27 x0 111 σ2 else kX5_addOk_27 x0 107 σ2))
def kX5_addOk (σ : Hp) (x0 : Nat) (x1 : Int32) : Option (Hp) := if x1 = 0 then kX5_addOk_12 x0 x1 x0 110 σ else kX5_addOk_12 x0 x1 x0 111 σ
set_option maxRecDepth 20000 in
theorem ksX5_addOk_27 {l : Launch} {G : Gt} {n0 u0 : Nat} {Z : Hp} (y0 : Nat) (y1 : Int32) (σ : Hp) (h : kX5_addOk_27 y0 y1 σ = some Z) : GoC l G RX5 "addOk" cX5_addOk 2 none 1 21 n0 u0 none Z 27 [] [.int y1, G.rv y0] σ := by
  unfold kX5_addOk_27 at h
  obtain ⟨h0, h⟩ := ckd_some h
  obtain ⟨σ1, hq, h⟩ := Option.bind_eq_some_iff.mp h
  refine GC.callvV (rest := []) 5 rfl h0 rfl [.int y1] dX5_addOk_27 kk_X5_19 km_X5_addByte.1 km_X5_addByte.2 (ktX5_addByte _ _ _ hq) rfl rfl (Nat.le_of_ble_eq_true rfl) (Nat.le_of_ble_eq_true rfl) trivial (Nat.le_of_ble_eq_true rfl) ?_
  cases h
  exact GoC.vret dX5_addOk_30 rfl
set_option maxRecDepth 20000 in
theorem ksX5_addOk_12 {l : Launch} {G : Gt} {n0 u0 : Nat} {Z : Hp} (x0 : Nat) (x1 : Int32) (y0 : Nat) (y1 : Int32) (σ : Hp) (h : kX5_addOk_12 x0 x1 y0 y1 σ = some Z) : GoC l G RX5 "addOk" cX5_addOk 2 none 1 21 n0 u0 none Z 12 [(0, G.rv x0), (1, .int x1)] [.int y1, G.rv y0] σ := by
  unfold kX5_addOk_12 at h
  obtain ⟨h0, h⟩ := ckd_some h
  obtain ⟨σ2, hq, h⟩ := Option.bind_eq_some_iff.mp h
  refine GC.callvV (rest := []) 5 rfl h0 rfl [.int y1] dX5_addOk_12 kk_X5_19 km_X5_addByte.1 km_X5_addByte.2 (ktX5_addByte _ _ _ hq) rfl rfl (Nat.le_of_ble_eq_true rfl) (Nat.le_of_ble_eq_true rfl) trivial (Nat.le_of_ble_eq_true rfl) ?_
  refine GC.aload_n 0 dX5_addOk_15 rfl ?_
  refine GoC.iload_n 1 dX5_addOk_16 rfl ?_
  refine GoC.if_eq 25 dX5_addOk_17 (by decide) h (fun h => ?_) (fun h => ?_)
  · refine GoC.bipush 111 dX5_addOk_25 (by decide) ?_
    refine GoC.sub [] rfl ?_
    exact ksX5_addOk_27 _ _ _ h
  · refine GoC.bipush 107 dX5_addOk_20 (by decide) ?_
    refine GoC.goto 27 dX5_addOk_22 (by decide) ?_
    refine GoC.sub [] rfl ?_
    exact ksX5_addOk_27 _ _ _ h
set_option maxRecDepth 20000 in
theorem ksX5_addOk {l : Launch} {G : Gt} {n0 u0 : Nat} {σ : Hp} {Z : Hp} (x0 : Nat) (x1 : Int32) (h : kX5_addOk σ x0 x1 = some Z) : GoC l G RX5 "addOk" cX5_addOk 2 none 1 21 n0 u0 none Z 0 [(0, G.rv x0), (1, .int x1)] [] σ := by
  unfold kX5_addOk at h
  refine GC.aload_n 0 dX5_addOk_0 rfl ?_
  refine GoC.iload_n 1 dX5_addOk_1 rfl ?_
  refine GoC.if_eq 10 dX5_addOk_2 (by decide) h (fun h => ?_) (fun h => ?_)
  · refine GoC.bipush 110 dX5_addOk_10 (by decide) ?_
    exact ksX5_addOk_12 _ _ _ _ _ h
  · refine GoC.bipush 111 dX5_addOk_5 (by decide) ?_
    refine GoC.goto 12 dX5_addOk_7 (by decide) ?_
    exact ksX5_addOk_12 _ _ _ _ _ h
set_option maxRecDepth 20000 in
theorem ktX5_addOk {l : Launch} {G : Gt} {σ : Hp} (x0 : Nat) (x1 : Int32) : ∀ Z, kX5_addOk σ x0 x1 = some Z → MtC l G yX5_addOk cX5_addOk 2 none 1 21 [G.rv x0, .int x1] σ none Z := fun Z h => MtC.at (by decide +kernel) ⟨G.rv_cat _, rfl, trivial⟩ (Nat.le_of_ble_eq_true rfl) (ksX5_addOk x0 x1 h)
/-! X5_addNumberOrNo -/
def kX5_addNumberOrNo (σ : Hp) (x0 : Nat) (x1 : Int32) : Option (Hp) := if x1 = (-1) then ckd σ x0 15 ((kX5_addOk σ x0 0).bind (fun σ2 => some σ2)) else ckd σ x0 15 ((kX5_addNumber σ x0 x1).bind (fun σ1 => some σ1))
set_option maxRecDepth 20000 in
theorem ksX5_addNumberOrNo {l : Launch} {G : Gt} {n0 u0 : Nat} {σ : Hp} {Z : Hp} (x0 : Nat) (x1 : Int32) (h : kX5_addNumberOrNo σ x0 x1 = some Z) : GoC l G RX5 "addNumberOrNo" cX5_addNumberOrNo 2 none 2 42 n0 u0 none Z 0 [(0, G.rv x0), (1, .int x1)] [] σ := by
  unfold kX5_addNumberOrNo at h
  refine GoC.iload_n 1 dX5_addNumberOrNo_0 rfl ?_
  refine GoC.iconst (-1) dX5_addNumberOrNo_1 (by decide) ?_
  refine GoC.icmp_ne 13 dX5_addNumberOrNo_2 (by decide) h (fun h => ?_) (fun h => ?_)
  · refine GC.aload_n 0 dX5_addNumberOrNo_13 rfl ?_
    refine GoC.iload_n 1 dX5_addNumberOrNo_14 rfl ?_
    obtain ⟨h0, h⟩ := ckd_some h
    obtain ⟨σ1, hq, h⟩ := Option.bind_eq_some_iff.mp h
    refine GC.callvV (rest := []) 5 rfl h0 rfl [.int x1] dX5_addNumberOrNo_15 kk_X5_27 km_X5_addNumber.1 km_X5_addNumber.2 (ktX5_addNumber _ _ _ hq) rfl rfl (Nat.le_of_ble_eq_true rfl) (Nat.le_of_ble_eq_true rfl) trivial (Nat.le_of_ble_eq_true rfl) ?_
    cases h
    exact GoC.vret dX5_addNumberOrNo_18 rfl
  · refine GC.aload_n 0 dX5_addNumberOrNo_5 rfl ?_
    refine GoC.iconst 0 dX5_addNumberOrNo_6 (by decide) ?_
    obtain ⟨h0, h⟩ := ckd_some h
    obtain ⟨σ2, hq, h⟩ := Option.bind_eq_some_iff.mp h
    refine GC.callvV (rest := []) 5 rfl h0 rfl [.int 0] dX5_addNumberOrNo_7 kk_X5_23 km_X5_addOk.1 km_X5_addOk.2 (ktX5_addOk _ _ _ hq) rfl rfl (Nat.le_of_ble_eq_true rfl) (Nat.le_of_ble_eq_true rfl) trivial (Nat.le_of_ble_eq_true rfl) ?_
    refine GoC.goto 18 dX5_addNumberOrNo_10 (by decide) ?_
    cases h
    exact GoC.vret dX5_addNumberOrNo_18 rfl
set_option maxRecDepth 20000 in
theorem ktX5_addNumberOrNo {l : Launch} {G : Gt} {σ : Hp} (x0 : Nat) (x1 : Int32) : ∀ Z, kX5_addNumberOrNo σ x0 x1 = some Z → MtC l G yX5_addNumberOrNo cX5_addNumberOrNo 2 none 2 42 [G.rv x0, .int x1] σ none Z := fun Z h => MtC.at (by decide +kernel) ⟨G.rv_cat _, rfl, trivial⟩ (Nat.le_of_ble_eq_true rfl) (ksX5_addNumberOrNo x0 x1 h)
/-! X5_addNumbers -/
def kX5_addNumbers_46  (x0 : Nat) (x1 : Int32) (σ : Hp) : Option (Hp) := if x1 = 0 then ckd σ x0 15 ((kX5_addByte σ x0 45).bind (fun σ1 => some σ1)) else some σ
def kX5_addNumbers_33 (k12 : Nat → Int32 → Nat → Int32 → Hp → Option (Hp)) (x0 : Nat) (x1 : Int32) (x2 : Nat) (x3 : Int32) (σ : Hp) : Option (Hp) := (ald σ 1 x2 x3).bind (fun v2 => ckd σ x0 15 ((kX5_addNumber σ x0 v2).bind (fun σ3 => k12 x0 x1 x2 (x3 + 1) σ3)))
def kX5_addNumbers_12  : Nat → Nat → Int32 → Nat → Int32 → Hp → Option (Hp)
  | 0, _, _, _, _, _ => none
  | n + 1, x0, x1, x2, x3, σ => if x1 ≤ x3 then kX5_addNumbers_46 x0 x1 σ else (aln σ x2).bind (fun v4 => if v4 ≤ x3 then kX5_addNumbers_46 x0 x1 σ else if x3 ≤ 0 then kX5_addNumbers_33 (kX5_addNumbers_12 n) x0 x1 x2 x3 σ else ckd σ x0 15 ((kX5_addByte σ x0 44).bind (fun σ5 => kX5_addNumbers_33 (kX5_addNumbers_12 n) x0 x1 x2 x3 σ5)))
def kX5_addNumbers_10  (x0 : Nat) (x1 : Int32) (x2 : Nat) (σ : Hp) : Option (Hp) := kX5_addNumbers_12 FU x0 x1 x2 0 σ
def kX5_addNumbers (σ : Hp) (x0 : Nat) (x1 : Int32) (x2 : Nat) : Option (Hp) := if x1 = (-1) then ckd σ x0 15 ((kX5_addOk σ x0 0).bind (fun σ6 => kX5_addNumbers_10 x0 x1 x2 σ6)) else kX5_addNumbers_10 x0 x1 x2 σ
set_option maxRecDepth 20000 in
theorem ksX5_addNumbers_46 {l : Launch} {G : Gt} {n0 u0 : Nat} {Z : Hp} (x0 : Nat) (x1 : Int32) (σ : Hp) (h : kX5_addNumbers_46 x0 x1 σ = some Z) : GoC l G RX5 "addNumbers" cX5_addNumbers 4 none 2 42 n0 u0 none Z 46 [(0, G.rv x0), (1, .int x1)] [] σ := by
  unfold kX5_addNumbers_46 at h
  refine GoC.iload_n 1 dX5_addNumbers_46 rfl ?_
  refine GoC.if_ne 56 dX5_addNumbers_47 (by decide) h (fun h => ?_) (fun h => ?_)
  · cases h
    exact GoC.vret dX5_addNumbers_56 rfl
  · refine GC.aload_n 0 dX5_addNumbers_50 rfl ?_
    refine GoC.bipush 45 dX5_addNumbers_51 (by decide) ?_
    obtain ⟨h0, h⟩ := ckd_some h
    obtain ⟨σ1, hq, h⟩ := Option.bind_eq_some_iff.mp h
    refine GC.callvV (rest := []) 5 rfl h0 rfl [.int 45] dX5_addNumbers_53 kk_X5_19 km_X5_addByte.1 km_X5_addByte.2 (ktX5_addByte _ _ _ hq) rfl rfl (Nat.le_of_ble_eq_true rfl) (Nat.le_of_ble_eq_true rfl) trivial (Nat.le_of_ble_eq_true rfl) ?_
    cases h
    exact GoC.vret dX5_addNumbers_56 rfl
set_option maxRecDepth 20000 in
theorem ksX5_addNumbers_33 {l : Launch} {G : Gt} {n0 u0 : Nat} {Z : Hp} (k12 : Nat → Int32 → Nat → Int32 → Hp → Option (Hp)) (h12 : ∀ (x0 : Nat) (x1 : Int32) (x2 : Nat) (x3 : Int32) (σ : Hp), k12 x0 x1 x2 x3 σ = some Z → GoC l G RX5 "addNumbers" cX5_addNumbers 4 none 2 42 n0 u0 none Z 12 [(0, G.rv x0), (1, .int x1), (2, G.rv x2), (3, .int x3)] [] σ) (x0 : Nat) (x1 : Int32) (x2 : Nat) (x3 : Int32) (σ : Hp) (h : kX5_addNumbers_33 k12 x0 x1 x2 x3 σ = some Z) : GoC l G RX5 "addNumbers" cX5_addNumbers 4 none 2 42 n0 u0 none Z 33 [(0, G.rv x0), (1, .int x1), (2, G.rv x2), (3, .int x3)] [] σ := by
  unfold kX5_addNumbers_33 at h
  refine GC.aload_n 0 dX5_addNumbers_33 rfl ?_
  refine GC.aload_n 2 dX5_addNumbers_34 rfl ?_
  refine GoC.iload_n 3 dX5_addNumbers_35 rfl ?_
  refine GC.iald dX5_addNumbers_36 h (fun v2 h => ?_)
  obtain ⟨h0, h⟩ := ckd_some h
  obtain ⟨σ3, hq, h⟩ := Option.bind_eq_some_iff.mp h
  refine GC.callvV (rest := []) 5 rfl h0 rfl [.int v2] dX5_addNumbers_37 kk_X5_27 km_X5_addNumber.1 km_X5_addNumber.2 (ktX5_addNumber _ _ _ hq) rfl rfl (Nat.le_of_ble_eq_true rfl) (Nat.le_of_ble_eq_true rfl) trivial (Nat.le_of_ble_eq_true rfl) ?_
  refine GoC.iinc (w := 1) 3 [(0, G.rv x0), (1, .int x1), (2, G.rv x2), (3, .int (x3 + 1))] dX5_addNumbers_40 rfl (by decide) (by decide) rfl ?_
  refine GoC.goto 12 dX5_addNumbers_43 (by decide) ?_
  exact h12 _ _ _ _ _ h
set_option maxRecDepth 20000 in
theorem ksX5_addNumbers_12 {l : Launch} {G : Gt} {n0 u0 : Nat} {Z : Hp} (n : Nat) : ∀ (x0 : Nat) (x1 : Int32) (x2 : Nat) (x3 : Int32) (σ : Hp), kX5_addNumbers_12 n x0 x1 x2 x3 σ = some Z → GoC l G RX5 "addNumbers" cX5_addNumbers 4 none 2 42 n0 u0 none Z 12 [(0, G.rv x0), (1, .int x1), (2, G.rv x2), (3, .int x3)] [] σ := by
  induction n with
  | zero => intro x0 x1 x2 x3 σ h; rw [kX5_addNumbers_12] at h; cases h
  | succ n ih =>
    intro x0 x1 x2 x3 σ h
    rw [kX5_addNumbers_12] at h
    refine GoC.iload_n 3 dX5_addNumbers_12 rfl ?_
    refine GoC.iload_n 1 dX5_addNumbers_13 rfl ?_
    refine GoC.icmp_ge 46 dX5_addNumbers_14 (by decide) h (fun h => ?_) (fun h => ?_)
    · refine GoC.sub [0, 1] rfl ?_
      exact ksX5_addNumbers_46 _ _ _ h
    · refine GoC.iload_n 3 dX5_addNumbers_17 rfl ?_
      refine GC.aload_n 2 dX5_addNumbers_18 rfl ?_
      refine GC.alen dX5_addNumbers_19 h (fun v4 h => ?_)
      refine GoC.icmp_ge 46 dX5_addNumbers_20 (by decide) h (fun h => ?_) (fun h => ?_)
      · refine GoC.sub [0, 1] rfl ?_
        exact ksX5_addNumbers_46 _ _ _ h
      · refine GoC.iload_n 3 dX5_addNumbers_23 rfl ?_
        refine GoC.if_le 33 dX5_addNumbers_24 (by decide) h (fun h => ?_) (fun h => ?_)
        · exact ksX5_addNumbers_33 _ ih _ _ _ _ _ h
        · refine GC.aload_n 0 dX5_addNumbers_27 rfl ?_
          refine GoC.bipush 44 dX5_addNumbers_28 (by decide) ?_
          obtain ⟨h0, h⟩ := ckd_some h
          obtain ⟨σ5, hq, h⟩ := Option.bind_eq_some_iff.mp h
          refine GC.callvV (rest := []) 5 rfl h0 rfl [.int 44] dX5_addNumbers_30 kk_X5_19 km_X5_addByte.1 km_X5_addByte.2 (ktX5_addByte _ _ _ hq) rfl rfl (Nat.le_of_ble_eq_true rfl) (Nat.le_of_ble_eq_true rfl) trivial (Nat.le_of_ble_eq_true rfl) ?_
          exact ksX5_addNumbers_33 _ ih _ _ _ _ _ h
set_option maxRecDepth 20000 in
theorem ksX5_addNumbers_10 {l : Launch} {G : Gt} {n0 u0 : Nat} {Z : Hp} (x0 : Nat) (x1 : Int32) (x2 : Nat) (σ : Hp) (h : kX5_addNumbers_10 x0 x1 x2 σ = some Z) : GoC l G RX5 "addNumbers" cX5_addNumbers 4 none 2 42 n0 u0 none Z 10 [(0, G.rv x0), (1, .int x1), (2, G.rv x2)] [] σ := by
  unfold kX5_addNumbers_10 at h
  refine GoC.iconst 0 dX5_addNumbers_10 (by decide) ?_
  refine GoC.istore_n [(0, G.rv x0), (1, .int x1), (2, G.rv x2), (3, .int 0)] dX5_addNumbers_11 (by decide) rfl ?_
  exact ksX5_addNumbers_12 _ _ _ _ _ _ h
set_option maxRecDepth 20000 in
theorem ksX5_addNumbers {l : Launch} {G : Gt} {n0 u0 : Nat} {σ : Hp} {Z : Hp} (x0 : Nat) (x1 : Int32) (x2 : Nat) (h : kX5_addNumbers σ x0 x1 x2 = some Z) : GoC l G RX5 "addNumbers" cX5_addNumbers 4 none 2 42 n0 u0 none Z 0 [(0, G.rv x0), (1, .int x1), (2, G.rv x2)] [] σ := by
  unfold kX5_addNumbers at h
  refine GoC.iload_n 1 dX5_addNumbers_0 rfl ?_
  refine GoC.iconst (-1) dX5_addNumbers_1 (by decide) ?_
  refine GoC.icmp_ne 10 dX5_addNumbers_2 (by decide) h (fun h => ?_) (fun h => ?_)
  · exact ksX5_addNumbers_10 _ _ _ _ h
  · refine GC.aload_n 0 dX5_addNumbers_5 rfl ?_
    refine GoC.iconst 0 dX5_addNumbers_6 (by decide) ?_
    obtain ⟨h0, h⟩ := ckd_some h
    obtain ⟨σ6, hq, h⟩ := Option.bind_eq_some_iff.mp h
    refine GC.callvV (rest := []) 5 rfl h0 rfl [.int 0] dX5_addNumbers_7 kk_X5_23 km_X5_addOk.1 km_X5_addOk.2 (ktX5_addOk _ _ _ hq) rfl rfl (Nat.le_of_ble_eq_true rfl) (Nat.le_of_ble_eq_true rfl) trivial (Nat.le_of_ble_eq_true rfl) ?_
    exact ksX5_addNumbers_10 _ _ _ _ h
set_option maxRecDepth 20000 in
theorem ktX5_addNumbers {l : Launch} {G : Gt} {σ : Hp} (x0 : Nat) (x1 : Int32) (x2 : Nat) : ∀ Z, kX5_addNumbers σ x0 x1 x2 = some Z → MtC l G yX5_addNumbers cX5_addNumbers 4 none 2 42 [G.rv x0, .int x1, G.rv x2] σ none Z := fun Z h => MtC.at (by decide +kernel) ⟨G.rv_cat _, rfl, G.rv_cat _, trivial⟩ (Nat.le_of_ble_eq_true rfl) (ksX5_addNumbers x0 x1 x2 h)
/-! X6_init -/
def kX6_init (σ : Hp) (x0 : Nat) (x1 : Nat) (x2 : Nat) (x3 : Nat) : Option (Hp) := (nz x0).bind (fun _ => (pfi σ 16 604 x0 (-1)).bind (fun σ1 => bd2 (nwA σ1 1 40) (fun v2 σ3 => (pfr σ3 16 610 x0 v2).bind (fun σ4 => bd2 (nwA σ4 1 40) (fun v5 σ6 => (pfr σ6 16 611 x0 v5).bind (fun σ7 => bd2 (nwA σ7 1 40) (fun v8 σ9 => (pfr σ9 16 612 x0 v8).bind (fun σ10 => (pfr σ10 16 600 x0 x1).bind (fun σ11 => (pfr σ11 16 601 x0 x2).bind (fun σ12 => (pfr σ12 16 602 x0 x3).bind (fun σ13 => some σ13)))))))))))
set_option maxRecDepth 20000 in
theorem ksX6_init {l : Launch} {G : Gt} {n0 u0 : Nat} {σ : Hp} {Z : Hp} (x0 : Nat) (x1 : Nat) (x2 : Nat) (x3 : Nat) (h : kX6_init σ x0 x1 x2 x3 = some Z) : GoC l G RX6 "<init>" cX6_init 4 none 1 20 n0 u0 none Z 0 [(0, G.rv x0), (1, G.rv x1), (2, G.rv x2), (3, G.rv x3)] [] σ := by
  unfold kX6_init at h
  refine GC.aload_n 0 dX6_init_0 rfl ?_
  obtain ⟨_, h0, h⟩ := Option.bind_eq_some_iff.mp h
  refine GC.oinit (nz_ne h0) oi_X6_3 oi_inst oi_code dX6_init_1 (Nat.le_of_ble_eq_true rfl) trivial (Nat.le_of_ble_eq_true rfl) ?_
  refine GC.aload_n 0 dX6_init_4 rfl ?_
  refine GoC.iconst (-1) dX6_init_5 (by decide) ?_
  refine GC.puti 6 4 rfl (by decide) (by decide) (rfl) fw_X6_9 (Or.inl rfl) (Or.inl rfl) dX6_init_6 h (fun σ1 h => ?_)
  refine GC.aload_n 0 dX6_init_9 rfl ?_
  refine GoC.bipush 40 dX6_init_10 (by decide) ?_
  refine GC.newI ac_int dX6_init_12 h (fun v2 σ3 h => ?_)
  refine GC.putr 6 10 rfl (by decide) (by decide) (Or.inr ⟨_, rfl⟩) fw_X6_15 (Or.inl rfl) (Or.inr ⟨rfl, rfl, rfl⟩) dX6_init_14 h (fun σ4 h => ?_)
  refine GC.aload_n 0 dX6_init_17 rfl ?_
  refine GoC.bipush 40 dX6_init_18 (by decide) ?_
  refine GC.newI ac_int dX6_init_20 h (fun v5 σ6 h => ?_)
  refine GC.putr 6 11 rfl (by decide) (by decide) (Or.inr ⟨_, rfl⟩) fw_X6_19 (Or.inl rfl) (Or.inr ⟨rfl, rfl, rfl⟩) dX6_init_22 h (fun σ7 h => ?_)
  refine GC.aload_n 0 dX6_init_25 rfl ?_
  refine GoC.bipush 40 dX6_init_26 (by decide) ?_
  refine GC.newI ac_int dX6_init_28 h (fun v8 σ9 h => ?_)
  refine GC.putr 6 12 rfl (by decide) (by decide) (Or.inr ⟨_, rfl⟩) fw_X6_22 (Or.inl rfl) (Or.inr ⟨rfl, rfl, rfl⟩) dX6_init_30 h (fun σ10 h => ?_)
  refine GC.aload_n 0 dX6_init_33 rfl ?_
  refine GC.aload_n 1 dX6_init_34 rfl ?_
  refine GC.putr 6 0 rfl (by decide) (by decide) (Or.inl ⟨_, rfl⟩) fw_X6_25 (Or.inl rfl) (Or.inr ⟨rfl, rfl, rfl⟩) dX6_init_35 h (fun σ11 h => ?_)
  refine GC.aload_n 0 dX6_init_38 rfl ?_
  refine GC.aload_n 2 dX6_init_39 rfl ?_
  refine GC.putr 6 1 rfl (by decide) (by decide) (Or.inl ⟨_, rfl⟩) fw_X6_29 (Or.inl rfl) (Or.inr ⟨rfl, rfl, rfl⟩) dX6_init_40 h (fun σ12 h => ?_)
  refine GC.aload_n 0 dX6_init_43 rfl ?_
  refine GC.aload_n 3 dX6_init_44 rfl ?_
  refine GC.putr 6 2 rfl (by decide) (by decide) (Or.inl ⟨_, rfl⟩) fw_X6_33 (Or.inl rfl) (Or.inr ⟨rfl, rfl, rfl⟩) dX6_init_45 h (fun σ13 h => ?_)
  cases h
  exact GoC.vret dX6_init_48 rfl
set_option maxRecDepth 20000 in
theorem ktX6_init {l : Launch} {G : Gt} {σ : Hp} (x0 : Nat) (x1 : Nat) (x2 : Nat) (x3 : Nat) : ∀ Z, kX6_init σ x0 x1 x2 x3 = some Z → MtC l G yX6_init cX6_init 4 none 1 20 [G.rv x0, G.rv x1, G.rv x2, G.rv x3] σ none Z := fun Z h => MtC.at (by decide +kernel) ⟨G.rv_cat _, G.rv_cat _, G.rv_cat _, G.rv_cat _, trivial⟩ (Nat.le_of_ble_eq_true rfl) (ksX6_init x0 x1 x2 x3 h)
/-! X6_answer -/
def kX6_answer (σ : Hp) (x0 : Nat) (x1 : Int32) : Option (Int32) := if x1 = (-1) then (gfi σ 16 613 x0).bind (fun v4 => some v4) else if x1 < 0 then some (-1) else (gfi σ 16 613 x0).bind (fun v1 => if v1 ≤ x1 then some (-1) else (gfr σ 16 612 x0).bind (fun v2 => (ald σ 1 v2 x1).bind (fun v3 => some v3)))
set_option maxRecDepth 20000 in
theorem ksX6_answer {l : Launch} {G : Gt} {n0 u0 : Nat} {σ : Hp} {Z : Int32} (x0 : Nat) (x1 : Int32) (h : kX6_answer σ x0 x1 = some Z) : GoC l G RX6 "answer" cX6_answer 2 (some .int) 0 0 n0 u0 (some (.int Z)) σ 0 [(0, G.rv x0), (1, .int x1)] [] σ := by
  unfold kX6_answer at h
  refine GoC.iload_n 1 dX6_answer_0 rfl ?_
  refine GoC.iconst (-1) dX6_answer_1 (by decide) ?_
  refine GoC.icmp_ne 10 dX6_answer_2 (by decide) h (fun h => ?_) (fun h => ?_)
  · refine GoC.iload_n 1 dX6_answer_10 rfl ?_
    refine GoC.if_lt 31 dX6_answer_11 (by decide) h (fun h => ?_) (fun h => ?_)
    · refine GoC.iconst (-1) dX6_answer_31 (by decide) ?_
      cases h
      exact GoC.iret dX6_answer_32 rfl
    · refine GoC.iload_n 1 dX6_answer_14 rfl ?_
      refine GC.aload_n 0 dX6_answer_15 rfl ?_
      refine GC.geti 6 13 rfl (by decide) (by decide) fw_X6_37 (Or.inl rfl) dX6_answer_16 h (fun v1 h => ?_)
      refine GoC.icmp_ge 31 dX6_answer_19 (by decide) h (fun h => ?_) (fun h => ?_)
      · refine GoC.iconst (-1) dX6_answer_31 (by decide) ?_
        cases h
        exact GoC.iret dX6_answer_32 rfl
      · refine GC.aload_n 0 dX6_answer_22 rfl ?_
        refine GC.getr 6 12 rfl (by decide) (by decide) fw_X6_22 (Or.inl rfl) dX6_answer_23 h (fun v2 h => ?_)
        refine GoC.iload_n 1 dX6_answer_26 rfl ?_
        refine GC.iald dX6_answer_27 h (fun v3 h => ?_)
        refine GoC.goto 32 dX6_answer_28 (by decide) ?_
        cases h
        exact GoC.iret dX6_answer_32 rfl
  · refine GC.aload_n 0 dX6_answer_5 rfl ?_
    refine GC.geti 6 13 rfl (by decide) (by decide) fw_X6_37 (Or.inl rfl) dX6_answer_6 h (fun v4 h => ?_)
    cases h
    exact GoC.iret dX6_answer_9 rfl
set_option maxRecDepth 20000 in
theorem ktX6_answer {l : Launch} {G : Gt} {σ : Hp} (x0 : Nat) (x1 : Int32) : ∀ Z, kX6_answer σ x0 x1 = some Z → MtC l G yX6_answer cX6_answer 2 (some .int) 0 0 [G.rv x0, .int x1] σ (some (.int Z)) σ := fun Z h => MtC.at (by decide +kernel) ⟨G.rv_cat _, rfl, trivial⟩ (Nat.le_of_ble_eq_true rfl) (ksX6_answer x0 x1 h)
