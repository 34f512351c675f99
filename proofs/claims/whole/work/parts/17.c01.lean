/-! X0_init -/
def kX0_init (σ : Hp) (x0 : Nat) : Option (Hp) := (nz x0).bind (fun _ => bd2 (nwA σ 1 300) (fun v1 σ2 => (pfr σ2 10 0 x0 v1).bind (fun σ3 => bd2 (nwA σ3 1 75) (fun v4 σ5 => (pfr σ5 10 2 x0 v4).bind (fun σ6 => bd2 (nwA σ6 1 75) (fun v7 σ8 => (pfr σ8 10 3 x0 v7).bind (fun σ9 => bd2 (nwA σ9 1 75) (fun v10 σ11 => (pfr σ11 10 4 x0 v10).bind (fun σ12 => (pfi σ12 10 6 x0 (-1)).bind (fun σ13 => some σ13))))))))))
set_option maxRecDepth 20000 in
theorem ksX0_init {l : Launch} {G : Gt} {n0 u0 : Nat} {σ : Hp} {Z : Hp} (x0 : Nat) (h : kX0_init σ x0 = some Z) : GoC l G RX0 "<init>" cX0_init 1 none 1 20 n0 u0 none Z 0 [(0, G.rv x0)] [] σ := by
  unfold kX0_init at h
  refine GC.aload_n 0 dX0_init_0 rfl ?_
  obtain ⟨_, h0, h⟩ := Option.bind_eq_some_iff.mp h
  refine GC.oinit (nz_ne h0) oi_X0_3 oi_inst oi_code dX0_init_1 (Nat.le_of_ble_eq_true rfl) trivial (Nat.le_of_ble_eq_true rfl) ?_
  refine GC.aload_n 0 dX0_init_4 rfl ?_
  refine GoC.sipush 300 dX0_init_5 (by decide) ?_
  refine GC.newI ac_int dX0_init_8 h (fun v1 σ2 h => ?_)
  refine GC.putr 0 0 rfl (by decide) (by decide) (Or.inr ⟨_, rfl⟩) fw_X0_9 (Or.inl rfl) (Or.inr ⟨rfl, rfl, rfl⟩) dX0_init_10 h (fun σ3 h => ?_)
  refine GC.aload_n 0 dX0_init_13 rfl ?_
  refine GoC.bipush 75 dX0_init_14 (by decide) ?_
  refine GC.newI ac_int dX0_init_16 h (fun v4 σ5 h => ?_)
  refine GC.putr 0 2 rfl (by decide) (by decide) (Or.inr ⟨_, rfl⟩) fw_X0_15 (Or.inl rfl) (Or.inr ⟨rfl, rfl, rfl⟩) dX0_init_18 h (fun σ6 h => ?_)
  refine GC.aload_n 0 dX0_init_21 rfl ?_
  refine GoC.bipush 75 dX0_init_22 (by decide) ?_
  refine GC.newI ac_int dX0_init_24 h (fun v7 σ8 h => ?_)
  refine GC.putr 0 3 rfl (by decide) (by decide) (Or.inr ⟨_, rfl⟩) fw_X0_18 (Or.inl rfl) (Or.inr ⟨rfl, rfl, rfl⟩) dX0_init_26 h (fun σ9 h => ?_)
  refine GC.aload_n 0 dX0_init_29 rfl ?_
  refine GoC.bipush 75 dX0_init_30 (by decide) ?_
  refine GC.newI ac_int dX0_init_32 h (fun v10 σ11 h => ?_)
  refine GC.putr 0 4 rfl (by decide) (by decide) (Or.inr ⟨_, rfl⟩) fw_X0_21 (Or.inl rfl) (Or.inr ⟨rfl, rfl, rfl⟩) dX0_init_34 h (fun σ12 h => ?_)
  refine GC.aload_n 0 dX0_init_37 rfl ?_
  refine GoC.iconst (-1) dX0_init_38 (by decide) ?_
  refine GC.puti 0 6 rfl (by decide) (by decide) (rfl) fw_X0_24 (Or.inl rfl) (Or.inl rfl) dX0_init_39 h (fun σ13 h => ?_)
  cases h
  exact GoC.vret dX0_init_42 rfl
set_option maxRecDepth 20000 in
theorem ktX0_init {l : Launch} {G : Gt} {σ : Hp} (x0 : Nat) : ∀ Z, kX0_init σ x0 = some Z → MtC l G yX0_init cX0_init 1 none 1 20 [G.rv x0] σ none Z := fun Z h => MtC.at (by decide +kernel) ⟨G.rv_cat _, trivial⟩ (Nat.le_of_ble_eq_true rfl) (ksX0_init x0 h)
/-! X0_hasRoom -/
def kX0_hasRoom (σ : Hp) (x0 : Nat) : Option (Int32) := (gfi σ 10 1 x0).bind (fun v1 => if 300 < (v1 + 20) then zb 0 else zb 1)
set_option maxRecDepth 20000 in
theorem ksX0_hasRoom {l : Launch} {G : Gt} {n0 u0 : Nat} {σ : Hp} {Z : Int32} (x0 : Nat) (h : kX0_hasRoom σ x0 = some Z) : GoC l G RX0 "hasRoom" cX0_hasRoom 1 (some .boolean) 0 0 n0 u0 (some (.int Z)) σ 0 [(0, G.rv x0)] [] σ := by
  unfold kX0_hasRoom at h
  refine GC.aload_n 0 dX0_hasRoom_0 rfl ?_
  refine GC.geti 0 1 rfl (by decide) (by decide) fw_X0_28 (Or.inl rfl) dX0_hasRoom_1 h (fun v1 h => ?_)
  refine GoC.bipush 20 dX0_hasRoom_4 (by decide) ?_
  refine GoC.iadd dX0_hasRoom_6 ?_
  refine GoC.sipush 300 dX0_hasRoom_7 (by decide) ?_
  refine GoC.icmp_gt 17 dX0_hasRoom_10 (by decide) h (fun h => ?_) (fun h => ?_)
  · refine GoC.iconst 0 dX0_hasRoom_17 (by decide) ?_
    exact GoC.zret dX0_hasRoom_18 rfl h
  · refine GoC.iconst 1 dX0_hasRoom_13 (by decide) ?_
    refine GoC.goto 18 dX0_hasRoom_14 (by decide) ?_
    exact GoC.zret dX0_hasRoom_18 rfl h
set_option maxRecDepth 20000 in
theorem ktX0_hasRoom {l : Launch} {G : Gt} {σ : Hp} (x0 : Nat) : ∀ Z, kX0_hasRoom σ x0 = some Z → MtC l G yX0_hasRoom cX0_hasRoom 1 (some .boolean) 0 0 [G.rv x0] σ (some (.int Z)) σ := fun Z h => MtC.at (by decide +kernel) ⟨G.rv_cat _, trivial⟩ (Nat.le_of_ble_eq_true rfl) (ksX0_hasRoom x0 h)
/-! X0_addFour -/
def kX0_addFour_3  : Nat → Nat → Int32 → Int32 → Hp → Option (Hp)
  | 0, _, _, _, _ => none
  | n + 1, x0, x1, x2, σ => if x2 < 0 then some σ else (gfi σ 10 1 x0).bind (fun v1 => if 300 ≤ v1 then some σ else (gfr σ 10 0 x0).bind (fun v2 => (gfi σ 10 1 x0).bind (fun v3 => (ast σ 1 v2 v3 ((x1.toUInt32 >>> (x2.toUInt32 &&& Int32.toUInt32 31)).toInt32 &&& 255)).bind (fun σ4 => (gfi σ4 10 1 x0).bind (fun v5 => (pfi σ4 10 1 x0 (v5 + 1)).bind (fun σ6 => kX0_addFour_3 n x0 x1 (x2 + (-8)) σ6))))))
def kX0_addFour (σ : Hp) (x0 : Nat) (x1 : Int32) : Option (Hp) := kX0_addFour_3 FU x0 x1 24 σ
set_option maxRecDepth 20000 in
theorem ksX0_addFour_3 {l : Launch} {G : Gt} {n0 u0 : Nat} {Z : Hp} (n : Nat) : ∀ (x0 : Nat) (x1 : Int32) (x2 : Int32) (σ : Hp), kX0_addFour_3 n x0 x1 x2 σ = some Z → GoC l G RX0 "addFour" cX0_addFour 3 none 0 0 n0 u0 none Z 3 [(0, G.rv x0), (1, .int x1), (2, .int x2)] [] σ := by
  induction n with
  | zero => intro x0 x1 x2 σ h; rw [kX0_addFour_3] at h; cases h
  | succ n ih =>
    intro x0 x1 x2 σ h
    rw [kX0_addFour_3] at h
    refine GoC.iload_n 2 dX0_addFour_3 rfl ?_
    refine GoC.if_lt 49 dX0_addFour_4 (by decide) h (fun h => ?_) (fun h => ?_)
    · cases h
      exact GoC.vret dX0_addFour_49 rfl
    · refine GC.aload_n 0 dX0_addFour_7 rfl ?_
      refine GC.geti 0 1 rfl (by decide) (by decide) fw_X0_28 (Or.inl rfl) dX0_addFour_8 h (fun v1 h => ?_)
      refine GoC.sipush 300 dX0_addFour_11 (by decide) ?_
      refine GoC.icmp_ge 49 dX0_addFour_14 (by decide) h (fun h => ?_) (fun h => ?_)
      · cases h
        exact GoC.vret dX0_addFour_49 rfl
      · refine GC.aload_n 0 dX0_addFour_17 rfl ?_
        refine GC.getr 0 0 rfl (by decide) (by decide) fw_X0_9 (Or.inl rfl) dX0_addFour_18 h (fun v2 h => ?_)
        refine GC.aload_n 0 dX0_addFour_21 rfl ?_
        refine GC.geti 0 1 rfl (by decide) (by decide) fw_X0_28 (Or.inl rfl) dX0_addFour_22 h (fun v3 h => ?_)
        refine GoC.iload_n 1 dX0_addFour_25 rfl ?_
        refine GoC.iload_n 2 dX0_addFour_26 rfl ?_
        refine GC.iushr dX0_addFour_27 ?_
        refine GoC.sipush 255 dX0_addFour_28 (by decide) ?_
        refine GoC.iand dX0_addFour_31 ?_
        refine GC.iast dX0_addFour_32 h (fun σ4 h => ?_)
        refine GC.aload_n 0 dX0_addFour_33 rfl ?_
        refine GoC.dup dX0_addFour_34 (G.rv_cat _) ?_
        refine GC.geti 0 1 rfl (by decide) (by decide) fw_X0_28 (Or.inl rfl) dX0_addFour_35 h (fun v5 h => ?_)
        refine GoC.iconst 1 dX0_addFour_38 (by decide) ?_
        refine GoC.iadd dX0_addFour_39 ?_
        refine GC.puti 0 1 rfl (by decide) (by decide) (rfl) fw_X0_28 (Or.inl rfl) (Or.inl rfl) dX0_addFour_40 h (fun σ6 h => ?_)
        refine GoC.iinc (w := (-8)) 2 [(0, G.rv x0), (1, .int x1), (2, .int (x2 + (-8)))] dX0_addFour_43 rfl (by decide) (by decide) rfl ?_
        refine GoC.goto 3 dX0_addFour_46 (by decide) ?_
        exact ih _ _ _ _ h
set_option maxRecDepth 20000 in
theorem ksX0_addFour {l : Launch} {G : Gt} {n0 u0 : Nat} {σ : Hp} {Z : Hp} (x0 : Nat) (x1 : Int32) (h : kX0_addFour σ x0 x1 = some Z) : GoC l G RX0 "addFour" cX0_addFour 3 none 0 0 n0 u0 none Z 0 [(0, G.rv x0), (1, .int x1)] [] σ := by
  unfold kX0_addFour at h
  refine GoC.bipush 24 dX0_addFour_0 (by decide) ?_
  refine GoC.istore_n [(0, G.rv x0), (1, .int x1), (2, .int 24)] dX0_addFour_2 (by decide) rfl ?_
  exact ksX0_addFour_3 _ _ _ _ _ h
set_option maxRecDepth 20000 in
theorem ktX0_addFour {l : Launch} {G : Gt} {σ : Hp} (x0 : Nat) (x1 : Int32) : ∀ Z, kX0_addFour σ x0 x1 = some Z → MtC l G yX0_addFour cX0_addFour 3 none 0 0 [G.rv x0, .int x1] σ none Z := fun Z h => MtC.at (by decide +kernel) ⟨G.rv_cat _, rfl, trivial⟩ (Nat.le_of_ble_eq_true rfl) (ksX0_addFour x0 x1 h)
/-! X0_sortOf -/
def kX0_sortOf_14 (σ : Hp)  (x0 : Int32) : Option (Int32) := if x0 < 48 then some 3 else if 57 < x0 then some 3 else some 2
def kX0_sortOf (σ : Hp) (x0 : Int32) : Option (Int32) := if x0 < 97 then kX0_sortOf_14 σ x0 else if 122 < x0 then kX0_sortOf_14 σ x0 else some 1
set_option maxRecDepth 20000 in
theorem ksX0_sortOf_14 {l : Launch} {G : Gt} {n0 u0 : Nat} {σ : Hp} {Z : Int32} (x0 : Int32) (h : kX0_sortOf_14 σ x0 = some Z) : GoC l G RX0 "sortOf" cX0_sortOf 1 (some .int) 0 0 n0 u0 (some (.int Z)) σ 14 [(0, .int x0)] [] σ := by
  unfold kX0_sortOf_14 at h
  refine GoC.iload_n 0 dX0_sortOf_14 rfl ?_
  refine GoC.bipush 48 dX0_sortOf_15 (by decide) ?_
  refine GoC.icmp_lt 30 dX0_sortOf_17 (by decide) h (fun h => ?_) (fun h => ?_)
  · refine GoC.iconst 3 dX0_sortOf_30 (by decide) ?_
    cases h
    exact GoC.iret dX0_sortOf_31 rfl
  · refine GoC.iload_n 0 dX0_sortOf_20 rfl ?_
    refine GoC.bipush 57 dX0_sortOf_21 (by decide) ?_
    refine GoC.icmp_gt 30 dX0_sortOf_23 (by decide) h (fun h => ?_) (fun h => ?_)
    · refine GoC.iconst 3 dX0_sortOf_30 (by decide) ?_
      cases h
      exact GoC.iret dX0_sortOf_31 rfl
    · refine GoC.iconst 2 dX0_sortOf_26 (by decide) ?_
      refine GoC.goto 31 dX0_sortOf_27 (by decide) ?_
      cases h
      exact GoC.iret dX0_sortOf_31 rfl
set_option maxRecDepth 20000 in
theorem ksX0_sortOf {l : Launch} {G : Gt} {n0 u0 : Nat} {σ : Hp} {Z : Int32} (x0 : Int32) (h : kX0_sortOf σ x0 = some Z) : GoC l G RX0 "sortOf" cX0_sortOf 1 (some .int) 0 0 n0 u0 (some (.int Z)) σ 0 [(0, .int x0)] [] σ := by
  unfold kX0_sortOf at h
  refine GoC.iload_n 0 dX0_sortOf_0 rfl ?_
  refine GoC.bipush 97 dX0_sortOf_1 (by decide) ?_
  refine GoC.icmp_lt 14 dX0_sortOf_3 (by decide) h (fun h => ?_) (fun h => ?_)
  · exact ksX0_sortOf_14 _ h
  · refine GoC.iload_n 0 dX0_sortOf_6 rfl ?_
    refine GoC.bipush 122 dX0_sortOf_7 (by decide) ?_
    refine GoC.icmp_gt 14 dX0_sortOf_9 (by decide) h (fun h => ?_) (fun h => ?_)
    · exact ksX0_sortOf_14 _ h
    · refine GoC.iconst 1 dX0_sortOf_12 (by decide) ?_
      cases h
      exact GoC.iret dX0_sortOf_13 rfl
set_option maxRecDepth 20000 in
theorem ktX0_sortOf {l : Launch} {G : Gt} {σ : Hp} (x0 : Int32) : ∀ Z, kX0_sortOf σ x0 = some Z → MtC l G yX0_sortOf cX0_sortOf 1 (some .int) 0 0 [.int x0] σ (some (.int Z)) σ := fun Z h => MtC.at (by decide +kernel) ⟨rfl, trivial⟩ (Nat.le_of_ble_eq_true rfl) (ksX0_sortOf x0 h)
/-! X0_goOn -/
def kX0_goOn_97  : Nat → Nat → Hp → Option (Hp)
  | 0, _, _ => none
  | n + 1, x0, σ => (gfi σ 10 9 x0).bind (fun v1 => (gfi σ 10 1 x0).bind (fun v2 => if v2 ≤ v1 then some σ else (gfi σ 10 7 x0).bind (fun v3 => if v3 = 3 then some σ else (gfr σ 10 0 x0).bind (fun v4 => (gfi σ 10 9 x0).bind (fun v5 => (ald σ 1 v4 v5).bind (fun v6 => (kX0_sortOf σ v6).bind (fun v7 => (gfi σ 10 7 x0).bind (fun v8 => if v7 = v8 then (gfi σ 10 9 x0).bind (fun v9 => (pfi σ 10 9 x0 (v9 + 1)).bind (fun σ10 => kX0_goOn_97 n x0 σ10)) else some σ))))))))
def kX0_goOn_46  (x0 : Nat) (σ : Hp) : Option (Hp) := (gfi σ 10 8 x0).bind (fun v11 => (pfi σ 10 9 x0 v11).bind (fun σ12 => (gfi σ12 10 8 x0).bind (fun v13 => (gfi σ12 10 1 x0).bind (fun v14 => if v13 < v14 then (gfr σ12 10 0 x0).bind (fun v15 => (gfi σ12 10 8 x0).bind (fun v16 => (ald σ12 1 v15 v16).bind (fun v17 => (kX0_sortOf σ12 v17).bind (fun v18 => (pfi σ12 10 7 x0 v18).bind (fun σ19 => (gfi σ19 10 9 x0).bind (fun v20 => (pfi σ19 10 9 x0 (v20 + 1)).bind (fun σ21 => kX0_goOn_97 FU x0 σ21))))))) else (pfi σ12 10 7 x0 0).bind (fun σ22 => some σ22)))))
def kX0_goOn_8  : Nat → Nat → Hp → Option (Hp)
  | 0, _, _ => none
  | n + 1, x0, σ => (gfi σ 10 8 x0).bind (fun v23 => (gfi σ 10 1 x0).bind (fun v24 => if v24 ≤ v23 then kX0_goOn_46 x0 σ else (gfr σ 10 0 x0).bind (fun v25 => (gfi σ 10 8 x0).bind (fun v26 => (ald σ 1 v25 v26).bind (fun v27 => if v27 = 32 then (gfi σ 10 8 x0).bind (fun v28 => (pfi σ 10 8 x0 (v28 + 1)).bind (fun σ29 => kX0_goOn_8 n x0 σ29)) else kX0_goOn_46 x0 σ)))))
def kX0_goOn (σ : Hp) (x0 : Nat) : Option (Hp) := (gfi σ 10 9 x0).bind (fun v30 => (pfi σ 10 8 x0 v30).bind (fun σ31 => kX0_goOn_8 FU x0 σ31))
set_option maxRecDepth 20000 in
theorem ksX0_goOn_97 {l : Launch} {G : Gt} {n0 u0 : Nat} {Z : Hp} (n : Nat) : ∀ (x0 : Nat) (σ : Hp), kX0_goOn_97 n x0 σ = some Z → GoC l G RX0 "goOn" cX0_goOn 1 none 1 20 n0 u0 none Z 97 [(0, G.rv x0)] [] σ := by
  induction n with
  | zero => intro x0 σ h; rw [kX0_goOn_97] at h; cases h
  | succ n ih =>
    intro x0 σ h
    rw [kX0_goOn_97] at h
    refine GC.aload_n 0 dX0_goOn_97 rfl ?_
    refine GC.geti 0 9 rfl (by decide) (by decide) fw_X0_34 (Or.inl rfl) dX0_goOn_98 h (fun v1 h => ?_)
    refine GC.aload_n 0 dX0_goOn_101 rfl ?_
    refine GC.geti 0 1 rfl (by decide) (by decide) fw_X0_28 (Or.inl rfl) dX0_goOn_102 h (fun v2 h => ?_)
    refine GoC.icmp_ge 148 dX0_goOn_105 (by decide) h (fun h => ?_) (fun h => ?_)
    · cases h
      exact GoC.vret dX0_goOn_148 rfl
    · refine GC.aload_n 0 dX0_goOn_108 rfl ?_
      refine GC.geti 0 7 rfl (by decide) (by decide) fw_X0_44 (Or.inl rfl) dX0_goOn_109 h (fun v3 h => ?_)
      refine GoC.iconst 3 dX0_goOn_112 (by decide) ?_
      refine GoC.icmp_eq 148 dX0_goOn_113 (by decide) h (fun h => ?_) (fun h => ?_)
      · cases h
        exact GoC.vret dX0_goOn_148 rfl
      · refine GC.aload_n 0 dX0_goOn_116 rfl ?_
        refine GC.getr 0 0 rfl (by decide) (by decide) fw_X0_9 (Or.inl rfl) dX0_goOn_117 h (fun v4 h => ?_)
        refine GC.aload_n 0 dX0_goOn_120 rfl ?_
        refine GC.geti 0 9 rfl (by decide) (by decide) fw_X0_34 (Or.inl rfl) dX0_goOn_121 h (fun v5 h => ?_)
        refine GC.iald dX0_goOn_124 h (fun v6 h => ?_)
        obtain ⟨v7, hq, h⟩ := Option.bind_eq_some_iff.mp h
        refine GC.callsI (rest := []) [.int v6] dX0_goOn_125 kk_X0_102 km_X0_sortOf (ktX0_sortOf _ _ hq) rfl rfl (Nat.le_of_ble_eq_true rfl) (Nat.le_of_ble_eq_true rfl) trivial (Nat.le_of_ble_eq_true rfl) ?_
        refine GC.aload_n 0 dX0_goOn_128 rfl ?_
        refine GC.geti 0 7 rfl (by decide) (by decide) fw_X0_44 (Or.inl rfl) dX0_goOn_129 h (fun v8 h => ?_)
        refine GoC.icmp_ne 148 dX0_goOn_132 (by decide) h (fun h => ?_) (fun h => ?_)
        · cases h
          exact GoC.vret dX0_goOn_148 rfl
        · refine GC.aload_n 0 dX0_goOn_135 rfl ?_
          refine GoC.dup dX0_goOn_136 (G.rv_cat _) ?_
          refine GC.geti 0 9 rfl (by decide) (by decide) fw_X0_34 (Or.inl rfl) dX0_goOn_137 h (fun v9 h => ?_)
          refine GoC.iconst 1 dX0_goOn_140 (by decide) ?_
          refine GoC.iadd dX0_goOn_141 ?_
          refine GC.puti 0 9 rfl (by decide) (by decide) (rfl) fw_X0_34 (Or.inl rfl) (Or.inl rfl) dX0_goOn_142 h (fun σ10 h => ?_)
          refine GoC.goto 97 dX0_goOn_145 (by decide) ?_
          exact ih _ _ h
set_option maxRecDepth 20000 in
theorem ksX0_goOn_46 {l : Launch} {G : Gt} {n0 u0 : Nat} {Z : Hp} (x0 : Nat) (σ : Hp) (h : kX0_goOn_46 x0 σ = some Z) : GoC l G RX0 "goOn" cX0_goOn 1 none 1 20 n0 u0 none Z 46 [(0, G.rv x0)] [] σ := by
  unfold kX0_goOn_46 at h
  refine GC.aload_n 0 dX0_goOn_46 rfl ?_
  refine GC.aload_n 0 dX0_goOn_47 rfl ?_
  refine GC.geti 0 8 rfl (by decide) (by decide) fw_X0_47 (Or.inl rfl) dX0_goOn_48 h (fun v11 h => ?_)
  refine GC.puti 0 9 rfl (by decide) (by decide) (rfl) fw_X0_34 (Or.inl rfl) (Or.inl rfl) dX0_goOn_51 h (fun σ12 h => ?_)
  refine GC.aload_n 0 dX0_goOn_54 rfl ?_
  refine GC.geti 0 8 rfl (by decide) (by decide) fw_X0_47 (Or.inl rfl) dX0_goOn_55 h (fun v13 h => ?_)
  refine GC.aload_n 0 dX0_goOn_58 rfl ?_
  refine GC.geti 0 1 rfl (by decide) (by decide) fw_X0_28 (Or.inl rfl) dX0_goOn_59 h (fun v14 h => ?_)
  refine GoC.icmp_lt 71 dX0_goOn_62 (by decide) h (fun h => ?_) (fun h => ?_)
  · refine GC.aload_n 0 dX0_goOn_71 rfl ?_
    refine GC.aload_n 0 dX0_goOn_72 rfl ?_
    refine GC.getr 0 0 rfl (by decide) (by decide) fw_X0_9 (Or.inl rfl) dX0_goOn_73 h (fun v15 h => ?_)
    refine GC.aload_n 0 dX0_goOn_76 rfl ?_
    refine GC.geti 0 8 rfl (by decide) (by decide) fw_X0_47 (Or.inl rfl) dX0_goOn_77 h (fun v16 h => ?_)
    refine GC.iald dX0_goOn_80 h (fun v17 h => ?_)
    obtain ⟨v18, hq, h⟩ := Option.bind_eq_some_iff.mp h
    refine GC.callsI (rest := [G.rv x0]) [.int v17] dX0_goOn_81 kk_X0_102 km_X0_sortOf (ktX0_sortOf _ _ hq) rfl rfl (Nat.le_of_ble_eq_true rfl) (Nat.le_of_ble_eq_true rfl) ⟨G.rv_cat _, trivial⟩ (Nat.le_of_ble_eq_true rfl) ?_
    refine GC.puti 0 7 rfl (by decide) (by decide) (rfl) fw_X0_44 (Or.inl rfl) (Or.inl rfl) dX0_goOn_84 h (fun σ19 h => ?_)
    refine GC.aload_n 0 dX0_goOn_87 rfl ?_
    refine GoC.dup dX0_goOn_88 (G.rv_cat _) ?_
    refine GC.geti 0 9 rfl (by decide) (by decide) fw_X0_34 (Or.inl rfl) dX0_goOn_89 h (fun v20 h => ?_)
    refine GoC.iconst 1 dX0_goOn_92 (by decide) ?_
    refine GoC.iadd dX0_goOn_93 ?_
    refine GC.puti 0 9 rfl (by decide) (by decide) (rfl) fw_X0_34 (Or.inl rfl) (Or.inl rfl) dX0_goOn_94 h (fun σ21 h => ?_)
    exact ksX0_goOn_97 _ _ _ h
  · refine GC.aload_n 0 dX0_goOn_65 rfl ?_
    refine GoC.iconst 0 dX0_goOn_66 (by decide) ?_
    refine GC.puti 0 7 rfl (by decide) (by decide) (rfl) fw_X0_44 (Or.inl rfl) (Or.inl rfl) dX0_goOn_67 h (fun σ22 h => ?_)
    cases h
    exact GoC.vret dX0_goOn_70 rfl
set_option maxRecDepth 20000 in
theorem ksX0_goOn_8 {l : Launch} {G : Gt} {n0 u0 : Nat} {Z : Hp} (n : Nat) : ∀ (x0 : Nat) (σ : Hp), kX0_goOn_8 n x0 σ = some Z → GoC l G RX0 "goOn" cX0_goOn 1 none 1 20 n0 u0 none Z 8 [(0, G.rv x0)] [] σ := by
  induction n with
  | zero => intro x0 σ h; rw [kX0_goOn_8] at h; cases h
  | succ n ih =>
    intro x0 σ h
    rw [kX0_goOn_8] at h
    refine GC.aload_n 0 dX0_goOn_8 rfl ?_
    refine GC.geti 0 8 rfl (by decide) (by decide) fw_X0_47 (Or.inl rfl) dX0_goOn_9 h (fun v23 h => ?_)
    refine GC.aload_n 0 dX0_goOn_12 rfl ?_
    refine GC.geti 0 1 rfl (by decide) (by decide) fw_X0_28 (Or.inl rfl) dX0_goOn_13 h (fun v24 h => ?_)
    refine GoC.icmp_ge 46 dX0_goOn_16 (by decide) h (fun h => ?_) (fun h => ?_)
    · exact ksX0_goOn_46 _ _ h
    · refine GC.aload_n 0 dX0_goOn_19 rfl ?_
      refine GC.getr 0 0 rfl (by decide) (by decide) fw_X0_9 (Or.inl rfl) dX0_goOn_20 h (fun v25 h => ?_)
      refine GC.aload_n 0 dX0_goOn_23 rfl ?_
      refine GC.geti 0 8 rfl (by decide) (by decide) fw_X0_47 (Or.inl rfl) dX0_goOn_24 h (fun v26 h => ?_)
      refine GC.iald dX0_goOn_27 h (fun v27 h => ?_)
      refine GoC.bipush 32 dX0_goOn_28 (by decide) ?_
      refine GoC.icmp_ne 46 dX0_goOn_30 (by decide) h (fun h => ?_) (fun h => ?_)
      · exact ksX0_goOn_46 _ _ h
      · refine GC.aload_n 0 dX0_goOn_33 rfl ?_
        refine GoC.dup dX0_goOn_34 (G.rv_cat _) ?_
        refine GC.geti 0 8 rfl (by decide) (by decide) fw_X0_47 (Or.inl rfl) dX0_goOn_35 h (fun v28 h => ?_)
        refine GoC.iconst 1 dX0_goOn_38 (by decide) ?_
        refine GoC.iadd dX0_goOn_39 ?_
        refine GC.puti 0 8 rfl (by decide) (by decide) (rfl) fw_X0_47 (Or.inl rfl) (Or.inl rfl) dX0_goOn_40 h (fun σ29 h => ?_)
        refine GoC.goto 8 dX0_goOn_43 (by decide) ?_
        exact ih _ _ h
set_option maxRecDepth 20000 in
theorem ksX0_goOn {l : Launch} {G : Gt} {n0 u0 : Nat} {σ : Hp} {Z : Hp} (x0 : Nat) (h : kX0_goOn σ x0 = some Z) : GoC l G RX0 "goOn" cX0_goOn 1 none 1 20 n0 u0 none Z 0 [(0, G.rv x0)] [] σ := by
  unfold kX0_goOn at h
  refine GC.aload_n 0 dX0_goOn_0 rfl ?_
  refine GC.aload_n 0 dX0_goOn_1 rfl ?_
  refine GC.geti 0 9 rfl (by decide) (by decide) fw_X0_34 (Or.inl rfl) dX0_goOn_2 h (fun v30 h => ?_)
  refine GC.puti 0 8 rfl (by decide) (by decide) (rfl) fw_X0_47 (Or.inl rfl) (Or.inl rfl) dX0_goOn_5 h (fun σ31 h => ?_)
  exact ksX0_goOn_8 _ _ _ h
set_option maxRecDepth 20000 in
theorem ktX0_goOn {l : Launch} {G : Gt} {σ : Hp} (x0 : Nat) : ∀ Z, kX0_goOn σ x0 = some Z → MtC l G yX0_goOn cX0_goOn 1 none 1 20 [G.rv x0] σ none Z := fun Z h => MtC.at (by decide +kernel) ⟨G.rv_cat _, trivial⟩ (Nat.le_of_ble_eq_true rfl) (ksX0_goOn x0 h)
/-! X0_readWord -/
def kX0_readWord_101  (x0 : Nat) (x1 : Int32) (x2 : Int32) (σ : Hp) : Option (Int32 × Hp) := if x1 = 0 then (gfi σ 10 8 x0).bind (fun v1 => (pfi σ 10 6 x0 v1).bind (fun σ2 => some (x2, σ2))) else (pfi σ 10 6 x0 (-1)).bind (fun σ3 => some (x2, σ3))
def kX0_readWord_94 (k49 : Nat → Int32 → Int32 → Int32 → Hp → Option (Int32 × Hp)) (x0 : Nat) (x2 : Int32) (x3 : Int32) (y0 : Int32) (σ : Hp) : Option (Int32 × Hp) := k49 x0 y0 x2 (x3 + 1) σ
def kX0_readWord_49  : Nat → Nat → Int32 → Int32 → Int32 → Hp → Option (Int32 × Hp)
  | 0, _, _, _, _, _ => none
  | n + 1, x0, x1, x2, x3, σ => (gfi σ 10 9 x0).bind (fun v4 => if v4 ≤ x3 then kX0_readWord_101 x0 x1 x2 σ else if x1 = 0 then kX0_readWord_101 x0 x1 x2 σ else (gfr σ 10 0 x0).bind (fun v5 => (ald σ 1 v5 x3).bind (fun v6 => (gfr σ 10 0 x0).bind (fun v7 => (ald σ 1 v7 x3).bind (fun v8 => if 104 < v8 then kX0_readWord_94 (kX0_readWord_49 n) x0 ((((x2 * 9) + v6) - 97) + 1) x3 0 σ else kX0_readWord_94 (kX0_readWord_49 n) x0 ((((x2 * 9) + v6) - 97) + 1) x3 1 σ)))))
def kX0_readWord_41  (x0 : Nat) (y0 : Int32) (σ : Hp) : Option (Int32 × Hp) := (gfi σ 10 8 x0).bind (fun v9 => kX0_readWord_49 FU x0 y0 0 v9 σ)
def kX0_readWord_40  (x0 : Nat) (σ : Hp) : Option (Int32 × Hp) := kX0_readWord_41 x0 0 σ
def kX0_readWord (σ : Hp) (x0 : Nat) : Option (Int32 × Hp) := (gfi σ 10 6 x0).bind (fun v10 => if v10 = (-1) then ckd σ x0 10 ((kX0_goOn σ x0).bind (fun σ11 => (gfi σ11 10 7 x0).bind (fun v12 => if v12 = 1 then (gfi σ11 10 9 x0).bind (fun v13 => (gfi σ11 10 8 x0).bind (fun v14 => if 6 < (v13 - v14) then kX0_readWord_40 x0 σ11 else kX0_readWord_41 x0 1 σ11)) else kX0_readWord_40 x0 σ11))) else some ((-1), σ))
set_option maxRecDepth 20000 in
theorem ksX0_readWord_101 {l : Launch} {G : Gt} {n0 u0 : Nat} {Z : Int32 × Hp} (x0 : Nat) (x1 : Int32) (x2 : Int32) (σ : Hp) (h : kX0_readWord_101 x0 x1 x2 σ = some Z) : GoC l G RX0 "readWord" cX0_readWord 4 (some .int) 2 40 n0 u0 (some (.int Z.1)) Z.2 101 [(0, G.rv x0), (1, .int x1), (2, .int x2)] [] σ := by
  unfold kX0_readWord_101 at h
  refine GC.aload_n 0 dX0_readWord_101 rfl ?_
  refine GoC.iload_n 1 dX0_readWord_102 rfl ?_
  refine GoC.if_eq 110 dX0_readWord_103 (by decide) h (fun h => ?_) (fun h => ?_)
  · refine GC.aload_n 0 dX0_readWord_110 rfl ?_
    refine GC.geti 0 8 rfl (by decide) (by decide) fw_X0_47 (Or.inl rfl) dX0_readWord_111 h (fun v1 h => ?_)
    refine GC.puti 0 6 rfl (by decide) (by decide) (rfl) fw_X0_24 (Or.inl rfl) (Or.inl rfl) dX0_readWord_114 h (fun σ2 h => ?_)
    refine GoC.iload_n 2 dX0_readWord_117 rfl ?_
    cases h
    exact GoC.iret dX0_readWord_118 rfl
  · refine GoC.iconst (-1) dX0_readWord_106 (by decide) ?_
    refine GoC.goto 114 dX0_readWord_107 (by decide) ?_
    refine GC.puti 0 6 rfl (by decide) (by decide) (rfl) fw_X0_24 (Or.inl rfl) (Or.inl rfl) dX0_readWord_114 h (fun σ3 h => ?_)
    refine GoC.iload_n 2 dX0_readWord_117 rfl ?_
    cases h
    exact GoC.iret dX0_readWord_118 rfl
set_option maxRecDepth 20000 in
theorem ksX0_readWord_94 {l : Launch} {G : Gt} {n0 u0 : Nat} {Z : Int32 × Hp} (k49 : Nat → Int32 → Int32 → Int32 → Hp → Option (Int32 × Hp)) (h49 : ∀ (x0 : Nat) (x1 : Int32) (x2 : Int32) (x3 : Int32) (σ : Hp), k49 x0 x1 x2 x3 σ = some Z → GoC l G RX0 "readWord" cX0_readWord 4 (some .int) 2 40 n0 u0 (some (.int Z.1)) Z.2 49 [(0, G.rv x0), (1, .int x1), (2, .int x2), (3, .int x3)] [] σ) (x0 : Nat) (x2 : Int32) (x3 : Int32) (y0 : Int32) (σ : Hp) (h : kX0_readWord_94 k49 x0 x2 x3 y0 σ = some Z) : GoC l G RX0 "readWord" cX0_readWord 4 (some .int) 2 40 n0 u0 (some (.int Z.1)) Z.2 94 [(0, G.rv x0), (2, .int x2), (3, .int x3)] [.int y0] σ := by
  unfold kX0_readWord_94 at h
  refine GoC.istore_n [(0, G.rv x0), (1, .int y0), (2, .int x2), (3, .int x3)] dX0_readWord_94 (by decide) rfl ?_
  refine GoC.iinc (w := 1) 3 [(0, G.rv x0), (1, .int y0), (2, .int x2), (3, .int (x3 + 1))] dX0_readWord_95 rfl (by decide) (by decide) rfl ?_
  refine GoC.goto 49 dX0_readWord_98 (by decide) ?_
  exact h49 _ _ _ _ _ h
set_option maxRecDepth 20000 in
theorem ksX0_readWord_49 {l : Launch} {G : Gt} {n0 u0 : Nat} {Z : Int32 × Hp} (n : Nat) : ∀ (x0 : Nat) (x1 : Int32) (x2 : Int32) (x3 : Int32) (σ : Hp), kX0_readWord_49 n x0 x1 x2 x3 σ = some Z → GoC l G RX0 "readWord" cX0_readWord 4 (some .int) 2 40 n0 u0 (some (.int Z.1)) Z.2 49 [(0, G.rv x0), (1, .int x1), (2, .int x2), (3, .int x3)] [] σ := by
  induction n with
  | zero => intro x0 x1 x2 x3 σ h; rw [kX0_readWord_49] at h; cases h
  | succ n ih =>
    intro x0 x1 x2 x3 σ h
    rw [kX0_readWord_49] at h
    refine GoC.iload_n 3 dX0_readWord_49 rfl ?_
    refine GC.aload_n 0 dX0_readWord_50 rfl ?_
    refine GC.geti 0 9 rfl (by decide) (by decide) fw_X0_34 (Or.inl rfl) dX0_readWord_51 h (fun v4 h => ?_)
    refine GoC.icmp_ge 101 dX0_readWord_54 (by decide) h (fun h => ?_) (fun h => ?_)
    · refine GoC.sub [0, 1, 2] rfl ?_
      exact ksX0_readWord_101 _ _ _ _ h
    · refine GoC.iload_n 1 dX0_readWord_57 rfl ?_
      refine GoC.if_eq 101 dX0_readWord_58 (by decide) h (fun h => ?_) (fun h => ?_)
      · refine GoC.sub [0, 1, 2] rfl ?_
        exact ksX0_readWord_101 _ _ _ _ h
      · refine GoC.iload_n 2 dX0_readWord_61 rfl ?_
        refine GoC.bipush 9 dX0_readWord_62 (by decide) ?_
        refine GoC.imul dX0_readWord_64 ?_
        refine GC.aload_n 0 dX0_readWord_65 rfl ?_
        refine GC.getr 0 0 rfl (by decide) (by decide) fw_X0_9 (Or.inl rfl) dX0_readWord_66 h (fun v5 h => ?_)
        refine GoC.iload_n 3 dX0_readWord_69 rfl ?_
        refine GC.iald dX0_readWord_70 h (fun v6 h => ?_)
        refine GoC.iadd dX0_readWord_71 ?_
        refine GoC.bipush 97 dX0_readWord_72 (by decide) ?_
        refine GoC.isub dX0_readWord_74 ?_
        refine GoC.iconst 1 dX0_readWord_75 (by decide) ?_
        refine GoC.iadd dX0_readWord_76 ?_
        refine GoC.istore_n [(0, G.rv x0), (1, .int x1), (2, .int ((((x2 * 9) + v6) - 97) + 1)), (3, .int x3)] dX0_readWord_77 (by decide) rfl ?_
        refine GC.aload_n 0 dX0_readWord_78 rfl ?_
        refine GC.getr 0 0 rfl (by decide) (by decide) fw_X0_9 (Or.inl rfl) dX0_readWord_79 h (fun v7 h => ?_)
        refine GoC.iload_n 3 dX0_readWord_82 rfl ?_
        refine GC.iald dX0_readWord_83 h (fun v8 h => ?_)
        refine GoC.bipush 104 dX0_readWord_84 (by decide) ?_
        refine GoC.icmp_gt 93 dX0_readWord_86 (by decide) h (fun h => ?_) (fun h => ?_)
        · refine GoC.iconst 0 dX0_readWord_93 (by decide) ?_
          refine GoC.sub [0, 2, 3] rfl ?_
          exact ksX0_readWord_94 _ ih _ _ _ _ _ h
        · refine GoC.iconst 1 dX0_readWord_89 (by decide) ?_
          refine GoC.goto 94 dX0_readWord_90 (by decide) ?_
          refine GoC.sub [0, 2, 3] rfl ?_
          exact ksX0_readWord_94 _ ih _ _ _ _ _ h
set_option maxRecDepth 20000 in
theorem ksX0_readWord_41 {l : Launch} {G : Gt} {n0 u0 : Nat} {Z : Int32 × Hp} (x0 : Nat) (y0 : Int32) (σ : Hp) (h : kX0_readWord_41 x0 y0 σ = some Z) : GoC l G RX0 "readWord" cX0_readWord 4 (some .int) 2 40 n0 u0 (some (.int Z.1)) Z.2 41 [(0, G.rv x0)] [.int y0] σ := by
  unfold kX0_readWord_41 at h
  refine GoC.istore_n [(0, G.rv x0), (1, .int y0)] dX0_readWord_41 (by decide) rfl ?_
  refine GoC.iconst 0 dX0_readWord_42 (by decide) ?_
  refine GoC.istore_n [(0, G.rv x0), (1, .int y0), (2, .int 0)] dX0_readWord_43 (by decide) rfl ?_
  refine GC.aload_n 0 dX0_readWord_44 rfl ?_
  refine GC.geti 0 8 rfl (by decide) (by decide) fw_X0_47 (Or.inl rfl) dX0_readWord_45 h (fun v9 h => ?_)
  refine GoC.istore_n [(0, G.rv x0), (1, .int y0), (2, .int 0), (3, .int v9)] dX0_readWord_48 (by decide) rfl ?_
  exact ksX0_readWord_49 _ _ _ _ _ _ h
set_option maxRecDepth 20000 in
theorem ksX0_readWord_40 {l : Launch} {G : Gt} {n0 u0 : Nat} {Z : Int32 × Hp} (x0 : Nat) (σ : Hp) (h : kX0_readWord_40 x0 σ = some Z) : GoC l G RX0 "readWord" cX0_readWord 4 (some .int) 2 40 n0 u0 (some (.int Z.1)) Z.2 40 [(0, G.rv x0)] [] σ := by
  unfold kX0_readWord_40 at h
  refine GoC.iconst 0 dX0_readWord_40 (by decide) ?_
  exact ksX0_readWord_41 _ _ _ h
set_option maxRecDepth 20000 in
theorem ksX0_readWord {l : Launch} {G : Gt} {n0 u0 : Nat} {σ : Hp} {Z : Int32 × Hp} (x0 : Nat) (h : kX0_readWord σ x0 = some Z) : GoC l G RX0 "readWord" cX0_readWord 4 (some .int) 2 40 n0 u0 (some (.int Z.1)) Z.2 0 [(0, G.rv x0)] [] σ := by
  unfold kX0_readWord at h
  refine GC.aload_n 0 dX0_readWord_0 rfl ?_
  refine GC.geti 0 6 rfl (by decide) (by decide) fw_X0_24 (Or.inl rfl) dX0_readWord_1 h (fun v10 h => ?_)
  refine GoC.iconst (-1) dX0_readWord_4 (by decide) ?_
  refine GoC.icmp_eq 10 dX0_readWord_5 (by decide) h (fun h => ?_) (fun h => ?_)
  · refine GC.aload_n 0 dX0_readWord_10 rfl ?_
    obtain ⟨h0, h⟩ := ckd_some h
    obtain ⟨σ11, hq, h⟩ := Option.bind_eq_some_iff.mp h
    refine GC.callvV (rest := []) 0 rfl h0 rfl [] dX0_readWord_11 kk_X0_41 km_X0_goOn.1 km_X0_goOn.2 (ktX0_goOn _ _ hq) rfl rfl (Nat.le_of_ble_eq_true rfl) (Nat.le_of_ble_eq_true rfl) trivial (Nat.le_of_ble_eq_true rfl) ?_
    refine GC.aload_n 0 dX0_readWord_14 rfl ?_
    refine GC.geti 0 7 rfl (by decide) (by decide) fw_X0_44 (Or.inl rfl) dX0_readWord_15 h (fun v12 h => ?_)
    refine GoC.iconst 1 dX0_readWord_18 (by decide) ?_
    refine GoC.icmp_ne 40 dX0_readWord_19 (by decide) h (fun h => ?_) (fun h => ?_)
    · exact ksX0_readWord_40 _ _ h
    · refine GC.aload_n 0 dX0_readWord_22 rfl ?_
      refine GC.geti 0 9 rfl (by decide) (by decide) fw_X0_34 (Or.inl rfl) dX0_readWord_23 h (fun v13 h => ?_)
      refine GC.aload_n 0 dX0_readWord_26 rfl ?_
      refine GC.geti 0 8 rfl (by decide) (by decide) fw_X0_47 (Or.inl rfl) dX0_readWord_27 h (fun v14 h => ?_)
      refine GoC.isub dX0_readWord_30 ?_
      refine GoC.bipush 6 dX0_readWord_31 (by decide) ?_
      refine GoC.icmp_gt 40 dX0_readWord_33 (by decide) h (fun h => ?_) (fun h => ?_)
      · exact ksX0_readWord_40 _ _ h
      · refine GoC.iconst 1 dX0_readWord_36 (by decide) ?_
        refine GoC.goto 41 dX0_readWord_37 (by decide) ?_
        exact ksX0_readWord_41 _ _ _ h
  · refine GoC.iconst (-1) dX0_readWord_8 (by decide) ?_
    cases h
    exact GoC.iret dX0_readWord_9 rfl
set_option maxRecDepth 20000 in
theorem ktX0_readWord {l : Launch} {G : Gt} {σ : Hp} (x0 : Nat) : ∀ Z, kX0_readWord σ x0 = some Z → MtC l G yX0_readWord cX0_readWord 4 (some .int) 2 40 [G.rv x0] σ (some (.int Z.1)) Z.2 := fun Z h => MtC.at (by decide +kernel) ⟨G.rv_cat _, trivial⟩ (Nat.le_of_ble_eq_true rfl) (ksX0_readWord x0 h)
/-! X0_readNumber -/
def kX0_readNumber_81  (x0 : Nat) (x1 : Int32) (x2 : Int32) (σ : Hp) : Option (Int32 × Hp) := if x1 = 0 then (gfi σ 10 8 x0).bind (fun v1 => (pfi σ 10 6 x0 v1).bind (fun σ2 => some (x2, σ2))) else (pfi σ 10 6 x0 (-1)).bind (fun σ3 => some (x2, σ3))
def kX0_readNumber_48  : Nat → Nat → Int32 → Int32 → Int32 → Hp → Option (Int32 × Hp)
  | 0, _, _, _, _, _ => none
  | n + 1, x0, x1, x2, x3, σ => (gfi σ 10 9 x0).bind (fun v4 => if v4 ≤ x3 then kX0_readNumber_81 x0 x1 x2 σ else if x1 = 0 then kX0_readNumber_81 x0 x1 x2 σ else (gfr σ 10 0 x0).bind (fun v5 => (ald σ 1 v5 x3).bind (fun v6 => kX0_readNumber_48 n x0 x1 (((x2 * 10) + v6) - 48) (x3 + 1) σ)))
def kX0_readNumber_40  (x0 : Nat) (y0 : Int32) (σ : Hp) : Option (Int32 × Hp) := (gfi σ 10 8 x0).bind (fun v7 => kX0_readNumber_48 FU x0 y0 0 v7 σ)
def kX0_readNumber_39  (x0 : Nat) (σ : Hp) : Option (Int32 × Hp) := kX0_readNumber_40 x0 0 σ
def kX0_readNumber (σ : Hp) (x0 : Nat) : Option (Int32 × Hp) := (gfi σ 10 6 x0).bind (fun v8 => if v8 = (-1) then ckd σ x0 10 ((kX0_goOn σ x0).bind (fun σ9 => (gfi σ9 10 7 x0).bind (fun v10 => if v10 = 2 then (gfi σ9 10 9 x0).bind (fun v11 => (gfi σ9 10 8 x0).bind (fun v12 => if 3 < (v11 - v12) then kX0_readNumber_39 x0 σ9 else kX0_readNumber_40 x0 1 σ9)) else kX0_readNumber_39 x0 σ9))) else some ((-1), σ))
set_option maxRecDepth 20000 in
theorem ksX0_readNumber_81 {l : Launch} {G : Gt} {n0 u0 : Nat} {Z : Int32 × Hp} (x0 : Nat) (x1 : Int32) (x2 : Int32) (σ : Hp) (h : kX0_readNumber_81 x0 x1 x2 σ = some Z) : GoC l G RX0 "readNumber" cX0_readNumber 4 (some .int) 2 40 n0 u0 (some (.int Z.1)) Z.2 81 [(0, G.rv x0), (1, .int x1), (2, .int x2)] [] σ := by
  unfold kX0_readNumber_81 at h
  refine GC.aload_n 0 dX0_readNumber_81 rfl ?_
  refine GoC.iload_n 1 dX0_readNumber_82 rfl ?_
  refine GoC.if_eq 90 dX0_readNumber_83 (by decide) h (fun h => ?_) (fun h => ?_)
  · refine GC.aload_n 0 dX0_readNumber_90 rfl ?_
    refine GC.geti 0 8 rfl (by decide) (by decide) fw_X0_47 (Or.inl rfl) dX0_readNumber_91 h (fun v1 h => ?_)
    refine GC.puti 0 6 rfl (by decide) (by decide) (rfl) fw_X0_24 (Or.inl rfl) (Or.inl rfl) dX0_readNumber_94 h (fun σ2 h => ?_)
    refine GoC.iload_n 2 dX0_readNumber_97 rfl ?_
    cases h
    exact GoC.iret dX0_readNumber_98 rfl
  · refine GoC.iconst (-1) dX0_readNumber_86 (by decide) ?_
    refine GoC.goto 94 dX0_readNumber_87 (by decide) ?_
    refine GC.puti 0 6 rfl (by decide) (by decide) (rfl) fw_X0_24 (Or.inl rfl) (Or.inl rfl) dX0_readNumber_94 h (fun σ3 h => ?_)
    refine GoC.iload_n 2 dX0_readNumber_97 rfl ?_
    cases h
    exact GoC.iret dX0_readNumber_98 rfl
set_option maxRecDepth 20000 in
theorem ksX0_readNumber_48 {l : Launch} {G : Gt} {n0 u0 : Nat} {Z : Int32 × Hp} (n : Nat) : ∀ (x0 : Nat) (x1 : Int32) (x2 : Int32) (x3 : Int32) (σ : Hp), kX0_readNumber_48 n x0 x1 x2 x3 σ = some Z → GoC l G RX0 "readNumber" cX0_readNumber 4 (some .int) 2 40 n0 u0 (some (.int Z.1)) Z.2 48 [(0, G.rv x0), (1, .int x1), (2, .int x2), (3, .int x3)] [] σ := by
  induction n with
  | zero => intro x0 x1 x2 x3 σ h; rw [kX0_readNumber_48] at h; cases h
  | succ n ih =>
    intro x0 x1 x2 x3 σ h
    rw [kX0_readNumber_48] at h
    refine GoC.iload_n 3 dX0_readNumber_48 rfl ?_
    refine GC.aload_n 0 dX0_readNumber_49 rfl ?_
    refine GC.geti 0 9 rfl (by decide) (by decide) fw_X0_34 (Or.inl rfl) dX0_readNumber_50 h (fun v4 h => ?_)
    refine GoC.icmp_ge 81 dX0_readNumber_53 (by decide) h (fun h => ?_) (fun h => ?_)
    · refine GoC.sub [0, 1, 2] rfl ?_
      exact ksX0_readNumber_81 _ _ _ _ h
    · refine GoC.iload_n 1 dX0_readNumber_56 rfl ?_
      refine GoC.if_eq 81 dX0_readNumber_57 (by decide) h (fun h => ?_) (fun h => ?_)
      · refine GoC.sub [0, 1, 2] rfl ?_
        exact ksX0_readNumber_81 _ _ _ _ h
      · refine GoC.iload_n 2 dX0_readNumber_60 rfl ?_
        refine GoC.bipush 10 dX0_readNumber_61 (by decide) ?_
        refine GoC.imul dX0_readNumber_63 ?_
        refine GC.aload_n 0 dX0_readNumber_64 rfl ?_
        refine GC.getr 0 0 rfl (by decide) (by decide) fw_X0_9 (Or.inl rfl) dX0_readNumber_65 h (fun v5 h => ?_)
        refine GoC.iload_n 3 dX0_readNumber_68 rfl ?_
        refine GC.iald dX0_readNumber_69 h (fun v6 h => ?_)
        refine GoC.iadd dX0_readNumber_70 ?_
        refine GoC.bipush 48 dX0_readNumber_71 (by decide) ?_
        refine GoC.isub dX0_readNumber_73 ?_
        refine GoC.istore_n [(0, G.rv x0), (1, .int x1), (2, .int (((x2 * 10) + v6) - 48)), (3, .int x3)] dX0_readNumber_74 (by decide) rfl ?_
        refine GoC.iinc (w := 1) 3 [(0, G.rv x0), (1, .int x1), (2, .int (((x2 * 10) + v6) - 48)), (3, .int (x3 + 1))] dX0_readNumber_75 rfl (by decide) (by decide) rfl ?_
        refine GoC.goto 48 dX0_readNumber_78 (by decide) ?_
        exact ih _ _ _ _ _ h
set_option maxRecDepth 20000 in
theorem ksX0_readNumber_40 {l : Launch} {G : Gt} {n0 u0 : Nat} {Z : Int32 × Hp} (x0 : Nat) (y0 : Int32) (σ : Hp) (h : kX0_readNumber_40 x0 y0 σ = some Z) : GoC l G RX0 "readNumber" cX0_readNumber 4 (some .int) 2 40 n0 u0 (some (.int Z.1)) Z.2 40 [(0, G.rv x0)] [.int y0] σ := by
  unfold kX0_readNumber_40 at h
  refine GoC.istore_n [(0, G.rv x0), (1, .int y0)] dX0_readNumber_40 (by decide) rfl ?_
  refine GoC.iconst 0 dX0_readNumber_41 (by decide) ?_
  refine GoC.istore_n [(0, G.rv x0), (1, .int y0), (2, .int 0)] dX0_readNumber_42 (by decide) rfl ?_
  refine GC.aload_n 0 dX0_readNumber_43 rfl ?_
  refine GC.geti 0 8 rfl (by decide) (by decide) fw_X0_47 (Or.inl rfl) dX0_readNumber_44 h (fun v7 h => ?_)
  refine GoC.istore_n [(0, G.rv x0), (1, .int y0), (2, .int 0), (3, .int v7)] dX0_readNumber_47 (by decide) rfl ?_
  exact ksX0_readNumber_48 _ _ _ _ _ _ h
set_option maxRecDepth 20000 in
theorem ksX0_readNumber_39 {l : Launch} {G : Gt} {n0 u0 : Nat} {Z : Int32 × Hp} (x0 : Nat) (σ : Hp) (h : kX0_readNumber_39 x0 σ = some Z) : GoC l G RX0 "readNumber" cX0_readNumber 4 (some .int) 2 40 n0 u0 (some (.int Z.1)) Z.2 39 [(0, G.rv x0)] [] σ := by
  unfold kX0_readNumber_39 at h
  refine GoC.iconst 0 dX0_readNumber_39 (by decide) ?_
  exact ksX0_readNumber_40 _ _ _ h
set_option maxRecDepth 20000 in
theorem ksX0_readNumber {l : Launch} {G : Gt} {n0 u0 : Nat} {σ : Hp} {Z : Int32 × Hp} (x0 : Nat) (h : kX0_readNumber σ x0 = some Z) : GoC l G RX0 "readNumber" cX0_readNumber 4 (some .int) 2 40 n0 u0 (some (.int Z.1)) Z.2 0 [(0, G.rv x0)] [] σ := by
  unfold kX0_readNumber at h
  refine GC.aload_n 0 dX0_readNumber_0 rfl ?_
  refine GC.geti 0 6 rfl (by decide) (by decide) fw_X0_24 (Or.inl rfl) dX0_readNumber_1 h (fun v8 h => ?_)
  refine GoC.iconst (-1) dX0_readNumber_4 (by decide) ?_
  refine GoC.icmp_eq 10 dX0_readNumber_5 (by decide) h (fun h => ?_) (fun h => ?_)
  · refine GC.aload_n 0 dX0_readNumber_10 rfl ?_
    obtain ⟨h0, h⟩ := ckd_some h
    obtain ⟨σ9, hq, h⟩ := Option.bind_eq_some_iff.mp h
    refine GC.callvV (rest := []) 0 rfl h0 rfl [] dX0_readNumber_11 kk_X0_41 km_X0_goOn.1 km_X0_goOn.2 (ktX0_goOn _ _ hq) rfl rfl (Nat.le_of_ble_eq_true rfl) (Nat.le_of_ble_eq_true rfl) trivial (Nat.le_of_ble_eq_true rfl) ?_
    refine GC.aload_n 0 dX0_readNumber_14 rfl ?_
    refine GC.geti 0 7 rfl (by decide) (by decide) fw_X0_44 (Or.inl rfl) dX0_readNumber_15 h (fun v10 h => ?_)
    refine GoC.iconst 2 dX0_readNumber_18 (by decide) ?_
    refine GoC.icmp_ne 39 dX0_readNumber_19 (by decide) h (fun h => ?_) (fun h => ?_)
    · exact ksX0_readNumber_39 _ _ h
    · refine GC.aload_n 0 dX0_readNumber_22 rfl ?_
      refine GC.geti 0 9 rfl (by decide) (by decide) fw_X0_34 (Or.inl rfl) dX0_readNumber_23 h (fun v11 h => ?_)
      refine GC.aload_n 0 dX0_readNumber_26 rfl ?_
      refine GC.geti 0 8 rfl (by decide) (by decide) fw_X0_47 (Or.inl rfl) dX0_readNumber_27 h (fun v12 h => ?_)
      refine GoC.isub dX0_readNumber_30 ?_
      refine GoC.iconst 3 dX0_readNumber_31 (by decide) ?_
      refine GoC.icmp_gt 39 dX0_readNumber_32 (by decide) h (fun h => ?_) (fun h => ?_)
      · exact ksX0_readNumber_39 _ _ h
      · refine GoC.iconst 1 dX0_readNumber_35 (by decide) ?_
        refine GoC.goto 40 dX0_readNumber_36 (by decide) ?_
        exact ksX0_readNumber_40 _ _ _ h
  · refine GoC.iconst (-1) dX0_readNumber_8 (by decide) ?_
    cases h
    exact GoC.iret dX0_readNumber_9 rfl
set_option maxRecDepth 20000 in
theorem ktX0_readNumber {l : Launch} {G : Gt} {σ : Hp} (x0 : Nat) : ∀ Z, kX0_readNumber σ x0 = some Z → MtC l G yX0_readNumber cX0_readNumber 4 (some .int) 2 40 [G.rv x0] σ (some (.int Z.1)) Z.2 := fun Z h => MtC.at (by decide +kernel) ⟨G.rv_cat _, trivial⟩ (Nat.le_of_ble_eq_true rfl) (ksX0_readNumber x0 h)
/-! J7_fill_53178 -/
def kJ7_fill_53178_5  : Nat → Nat → Int32 → Int32 → Int32 → Hp → Option (Hp)
  | 0, _, _, _, _, _ => none
  | n + 1, x0, x1, x2, x3, σ => if x3 ≤ x2 then some σ else (ast σ 1 x0 x2 x1).bind (fun σ1 => kJ7_fill_53178_5 n x0 x1 (x2 + 1) x3 σ1)
def kJ7_fill_53178 (σ : Hp) (x0 : Nat) (x1 : Int32) : Option (Hp) := (aln σ x0).bind (fun v2 => kJ7_fill_53178_5 FU x0 x1 0 v2 σ)
set_option maxRecDepth 20000 in
theorem ksJ7_fill_53178_5 {l : Launch} {G : Gt} {n0 u0 : Nat} {Z : Hp} (n : Nat) : ∀ (x0 : Nat) (x1 : Int32) (x2 : Int32) (x3 : Int32) (σ : Hp), kJ7_fill_53178_5 n x0 x1 x2 x3 σ = some Z → GoC l G RJ7 "fill" cJ7_fill_53178 4 none 0 0 n0 u0 none Z 5 [(0, G.rv x0), (1, .int x1), (2, .int x2), (3, .int x3)] [] σ := by
  induction n with
  | zero => intro x0 x1 x2 x3 σ h; rw [kJ7_fill_53178_5] at h; cases h
  | succ n ih =>
    intro x0 x1 x2 x3 σ h
    rw [kJ7_fill_53178_5] at h
    refine GoC.iload_n 2 dJ7_fill_53178_5 rfl ?_
    refine GoC.iload_n 3 dJ7_fill_53178_6 rfl ?_
    refine GoC.icmp_ge 20 dJ7_fill_53178_7 (by decide) h (fun h => ?_) (fun h => ?_)
    · cases h
      exact GoC.vret dJ7_fill_53178_20 rfl
    · refine GC.aload_n 0 dJ7_fill_53178_10 rfl ?_
      refine GoC.iload_n 2 dJ7_fill_53178_11 rfl ?_
      refine GoC.iload_n 1 dJ7_fill_53178_12 rfl ?_
      refine GC.iast dJ7_fill_53178_13 h (fun σ1 h => ?_)
      refine GoC.iinc (w := 1) 2 [(0, G.rv x0), (1, .int x1), (2, .int (x2 + 1)), (3, .int x3)] dJ7_fill_53178_14 rfl (by decide) (by decide) rfl ?_
      refine GoC.goto 5 dJ7_fill_53178_17 (by decide) ?_
      exact ih _ _ _ _ _ h
set_option maxRecDepth 20000 in
theorem ksJ7_fill_53178 {l : Launch} {G : Gt} {n0 u0 : Nat} {σ : Hp} {Z : Hp} (x0 : Nat) (x1 : Int32) (h : kJ7_fill_53178 σ x0 x1 = some Z) : GoC l G RJ7 "fill" cJ7_fill_53178 4 none 0 0 n0 u0 none Z 0 [(0, G.rv x0), (1, .int x1)] [] σ := by
  unfold kJ7_fill_53178 at h
  refine GoC.iconst 0 dJ7_fill_53178_0 (by decide) ?_
  refine GoC.istore_n [(0, G.rv x0), (1, .int x1), (2, .int 0)] dJ7_fill_53178_1 (by decide) rfl ?_
  refine GC.aload_n 0 dJ7_fill_53178_2 rfl ?_
  refine GC.alen dJ7_fill_53178_3 h (fun v2 h => ?_)
  refine GoC.istore_n [(0, G.rv x0), (1, .int x1), (2, .int 0), (3, .int v2)] dJ7_fill_53178_4 (by decide) rfl ?_
  exact ksJ7_fill_53178_5 _ _ _ _ _ _ h
set_option maxRecDepth 20000 in
theorem ktJ7_fill_53178 {l : Launch} {G : Gt} {σ : Hp} (x0 : Nat) (x1 : Int32) : ∀ Z, kJ7_fill_53178 σ x0 x1 = some Z → MtC l G yJ7_fill_53178 cJ7_fill_53178 4 none 0 0 [G.rv x0, .int x1] σ none Z := fun Z h => MtC.at (by decide +kernel) ⟨G.rv_cat _, rfl, trivial⟩ (Nat.le_of_ble_eq_true rfl) (ksJ7_fill_53178 x0 x1 h)
/-! X1_init -/
def kX1_init (σ : Hp) (x0 : Nat) (x1 : Nat) : Option (Hp) := (nz x0).bind (fun _ => bd2 (nwA σ 1 1600) (fun v1 σ2 => (pfr σ2 11 101 x0 v1).bind (fun σ3 => bd2 (nwA σ3 1 40) (fun v4 σ5 => (pfr σ5 11 102 x0 v4).bind (fun σ6 => (pfi σ6 11 103 x0 0).bind (fun σ7 => bd2 (nwA σ7 1 16) (fun v8 σ9 => (pfr σ9 11 104 x0 v8).bind (fun σ10 => (pfr σ10 11 100 x0 x1).bind (fun σ11 => (gfr σ11 11 101 x0).bind (fun v12 => (kJ7_fill_53178 σ11 v12 (-1)).bind (fun σ13 => some σ13)))))))))))
set_option maxRecDepth 20000 in
theorem ksX1_init {l : Launch} {G : Gt} {n0 u0 : Nat} {σ : Hp} {Z : Hp} (x0 : Nat) (x1 : Nat) (h : kX1_init σ x0 x1 = some Z) : GoC l G RX1 "<init>" cX1_init 2 none 1 23 n0 u0 none Z 0 [(0, G.rv x0), (1, G.rv x1)] [] σ := by
  unfold kX1_init at h
  refine GC.aload_n 0 dX1_init_0 rfl ?_
  obtain ⟨_, h0, h⟩ := Option.bind_eq_some_iff.mp h
  refine GC.oinit (nz_ne h0) oi_X1_3 oi_inst oi_code dX1_init_1 (Nat.le_of_ble_eq_true rfl) trivial (Nat.le_of_ble_eq_true rfl) ?_
  refine GC.aload_n 0 dX1_init_4 rfl ?_
  refine GoC.sipush 1600 dX1_init_5 (by decide) ?_
  refine GC.newI ac_int dX1_init_8 h (fun v1 σ2 h => ?_)
  refine GC.putr 1 1 rfl (by decide) (by decide) (Or.inr ⟨_, rfl⟩) fw_X1_9 (Or.inl rfl) (Or.inr ⟨rfl, rfl, rfl⟩) dX1_init_10 h (fun σ3 h => ?_)
  refine GC.aload_n 0 dX1_init_13 rfl ?_
  refine GoC.bipush 40 dX1_init_14 (by decide) ?_
  refine GC.newI ac_int dX1_init_16 h (fun v4 σ5 h => ?_)
  refine GC.putr 1 2 rfl (by decide) (by decide) (Or.inr ⟨_, rfl⟩) fw_X1_15 (Or.inl rfl) (Or.inr ⟨rfl, rfl, rfl⟩) dX1_init_18 h (fun σ6 h => ?_)
  refine GC.aload_n 0 dX1_init_21 rfl ?_
  refine GoC.iconst 0 dX1_init_22 (by decide) ?_
  refine GC.puti 1 3 rfl (by decide) (by decide) (rfl) fw_X1_18 (Or.inl rfl) (Or.inl rfl) dX1_init_23 h (fun σ7 h => ?_)
  refine GC.aload_n 0 dX1_init_26 rfl ?_
  refine GoC.bipush 16 dX1_init_27 (by decide) ?_
  refine GC.newI ac_int dX1_init_29 h (fun v8 σ9 h => ?_)
  refine GC.putr 1 4 rfl (by decide) (by decide) (Or.inr ⟨_, rfl⟩) fw_X1_22 (Or.inl rfl) (Or.inr ⟨rfl, rfl, rfl⟩) dX1_init_31 h (fun σ10 h => ?_)
  refine GC.aload_n 0 dX1_init_34 rfl ?_
  refine GC.aload_n 1 dX1_init_35 rfl ?_
  refine GC.putr 1 0 rfl (by decide) (by decide) (Or.inl ⟨_, rfl⟩) fw_X1_25 (Or.inl rfl) (Or.inr ⟨rfl, rfl, rfl⟩) dX1_init_36 h (fun σ11 h => ?_)
  refine GC.aload_n 0 dX1_init_39 rfl ?_
  refine GC.getr 1 1 rfl (by decide) (by decide) fw_X1_9 (Or.inl rfl) dX1_init_40 h (fun v12 h => ?_)
  refine GoC.iconst (-1) dX1_init_43 (by decide) ?_
  obtain ⟨σ13, hq, h⟩ := Option.bind_eq_some_iff.mp h
  refine GC.callsV (rest := []) [G.rv v12, .int (-1)] dX1_init_44 kk_X1_29 km_J7_fill_53178 (ktJ7_fill_53178 _ _ _ hq) rfl rfl (Nat.le_of_ble_eq_true rfl) (Nat.le_of_ble_eq_true rfl) trivial (Nat.le_of_ble_eq_true rfl) ?_
  cases h
  exact GoC.vret dX1_init_47 rfl
set_option maxRecDepth 20000 in
theorem ktX1_init {l : Launch} {G : Gt} {σ : Hp} (x0 : Nat) (x1 : Nat) : ∀ Z, kX1_init σ x0 x1 = some Z → MtC l G yX1_init cX1_init 2 none 1 23 [G.rv x0, G.rv x1] σ none Z := fun Z h => MtC.at (by decide +kernel) ⟨G.rv_cat _, G.rv_cat _, trivial⟩ (Nat.le_of_ble_eq_true rfl) (ksX1_init x0 x1 h)
/-! X1_of -/
def kX1_of (σ : Hp) (x0 : Nat) (x1 : Int32) (x2 : Int32) : Option (Int32) := (gfr σ 11 101 x0).bind (fun v1 => (ald σ 1 v1 ((x1 * 40) + x2)).bind (fun v2 => some v2))
set_option maxRecDepth 20000 in
theorem ksX1_of {l : Launch} {G : Gt} {n0 u0 : Nat} {σ : Hp} {Z : Int32} (x0 : Nat) (x1 : Int32) (x2 : Int32) (h : kX1_of σ x0 x1 x2 = some Z) : GoC l G RX1 "of" cX1_of 3 (some .int) 0 0 n0 u0 (some (.int Z)) σ 0 [(0, G.rv x0), (1, .int x1), (2, .int x2)] [] σ := by
  unfold kX1_of at h
  refine GC.aload_n 0 dX1_of_0 rfl ?_
  refine GC.getr 1 1 rfl (by decide) (by decide) fw_X1_9 (Or.inl rfl) dX1_of_1 h (fun v1 h => ?_)
  refine GoC.iload_n 1 dX1_of_4 rfl ?_
  refine GoC.bipush 40 dX1_of_5 (by decide) ?_
  refine GoC.imul dX1_of_7 ?_
  refine GoC.iload_n 2 dX1_of_8 rfl ?_
  refine GoC.iadd dX1_of_9 ?_
  refine GC.iald dX1_of_10 h (fun v2 h => ?_)
  cases h
  exact GoC.iret dX1_of_11 rfl
set_option maxRecDepth 20000 in
theorem ktX1_of {l : Launch} {G : Gt} {σ : Hp} (x0 : Nat) (x1 : Int32) (x2 : Int32) : ∀ Z, kX1_of σ x0 x1 x2 = some Z → MtC l G yX1_of cX1_of 3 (some .int) 0 0 [G.rv x0, .int x1, .int x2] σ (some (.int Z)) σ := fun Z h => MtC.at (by decide +kernel) ⟨G.rv_cat _, rfl, rfl, trivial⟩ (Nat.le_of_ble_eq_true rfl) (ksX1_of x0 x1 x2 h)
/-! X1_wayOf -/
def kX1_wayOf (σ : Hp) (x0 : Nat) (x1 : Nat) (x2 : Int32) : Option (Int32) := (gfi σ 13 301 x1).bind (fun v1 => if v1 = (-1) then some 0 else (gfi σ 13 301 x1).bind (fun v2 => (gfr σ 13 303 x1).bind (fun v3 => (ald σ 1 v3 x2).bind (fun v4 => ckd σ x0 11 ((kX1_of σ x0 v2 v4).bind (fun v5 => some v5))))))
set_option maxRecDepth 20000 in
theorem ksX1_wayOf {l : Launch} {G : Gt} {n0 u0 : Nat} {σ : Hp} {Z : Int32} (x0 : Nat) (x1 : Nat) (x2 : Int32) (h : kX1_wayOf σ x0 x1 x2 = some Z) : GoC l G RX1 "wayOf" cX1_wayOf 3 (some .int) 1 22 n0 u0 (some (.int Z)) σ 0 [(0, G.rv x0), (1, G.rv x1), (2, .int x2)] [] σ := by
  unfold kX1_wayOf at h
  refine GC.aload_n 1 dX1_wayOf_0 rfl ?_
  refine GC.geti 3 1 rfl (by decide) (by decide) fw_X1_35 (Or.inl rfl) dX1_wayOf_1 h (fun v1 h => ?_)
  refine GoC.iconst (-1) dX1_wayOf_4 (by decide) ?_
  refine GoC.icmp_ne 12 dX1_wayOf_5 (by decide) h (fun h => ?_) (fun h => ?_)
  · refine GC.aload_n 0 dX1_wayOf_12 rfl ?_
    refine GC.aload_n 1 dX1_wayOf_13 rfl ?_
    refine GC.geti 3 1 rfl (by decide) (by decide) fw_X1_35 (Or.inl rfl) dX1_wayOf_14 h (fun v2 h => ?_)
    refine GC.aload_n 1 dX1_wayOf_17 rfl ?_
    refine GC.getr 3 3 rfl (by decide) (by decide) fw_X1_40 (Or.inl rfl) dX1_wayOf_18 h (fun v3 h => ?_)
    refine GoC.iload_n 2 dX1_wayOf_21 rfl ?_
    refine GC.iald dX1_wayOf_22 h (fun v4 h => ?_)
    obtain ⟨h0, h⟩ := ckd_some h
    obtain ⟨v5, hq, h⟩ := Option.bind_eq_some_iff.mp h
    refine GC.callvI (rest := []) 1 rfl h0 rfl [.int v2, .int v4] dX1_wayOf_23 kk_X1_43 km_X1_of.1 km_X1_of.2 (ktX1_of _ _ _ _ hq) rfl rfl (Nat.le_of_ble_eq_true rfl) (Nat.le_of_ble_eq_true rfl) trivial (Nat.le_of_ble_eq_true rfl) ?_
    cases h
    exact GoC.iret dX1_wayOf_26 rfl
  · refine GoC.iconst 0 dX1_wayOf_8 (by decide) ?_
    refine GoC.goto 26 dX1_wayOf_9 (by decide) ?_
    cases h
    exact GoC.iret dX1_wayOf_26 rfl
set_option maxRecDepth 20000 in
theorem ktX1_wayOf {l : Launch} {G : Gt} {σ : Hp} (x0 : Nat) (x1 : Nat) (x2 : Int32) : ∀ Z, kX1_wayOf σ x0 x1 x2 = some Z → MtC l G yX1_wayOf cX1_wayOf 3 (some .int) 1 22 [G.rv x0, G.rv x1, .int x2] σ (some (.int Z)) σ := fun Z h => MtC.at (by decide +kernel) ⟨G.rv_cat _, G.rv_cat _, rfl, trivial⟩ (Nat.le_of_ble_eq_true rfl) (ksX1_wayOf x0 x1 x2 h)
/-! X1_unlearn -/
def kX1_unlearn_2  : Nat → Nat → Int32 → Int32 → Hp → Option (Hp)
  | 0, _, _, _, _ => none
  | n + 1, x0, x1, x2, σ => if 40 ≤ x2 then some σ else (gfr σ 11 101 x0).bind (fun v1 => (ast σ 1 v1 ((x1 * 40) + x2) (-1)).bind (fun σ2 => (gfr σ2 11 101 x0).bind (fun v3 => (ast σ2 1 v3 ((x2 * 40) + x1) (-1)).bind (fun σ4 => kX1_unlearn_2 n x0 x1 (x2 + 1) σ4))))
def kX1_unlearn (σ : Hp) (x0 : Nat) (x1 : Int32) : Option (Hp) := kX1_unlearn_2 FU x0 x1 0 σ
set_option maxRecDepth 20000 in
theorem ksX1_unlearn_2 {l : Launch} {G : Gt} {n0 u0 : Nat} {Z : Hp} (n : Nat) : ∀ (x0 : Nat) (x1 : Int32) (x2 : Int32) (σ : Hp), kX1_unlearn_2 n x0 x1 x2 σ = some Z → GoC l G RX1 "unlearn" cX1_unlearn 3 none 0 0 n0 u0 none Z 2 [(0, G.rv x0), (1, .int x1), (2, .int x2)] [] σ := by
  induction n with
  | zero => intro x0 x1 x2 σ h; rw [kX1_unlearn_2] at h; cases h
  | succ n ih =>
    intro x0 x1 x2 σ h
    rw [kX1_unlearn_2] at h
    refine GoC.iload_n 2 dX1_unlearn_2 rfl ?_
    refine GoC.bipush 40 dX1_unlearn_3 (by decide) ?_
    refine GoC.icmp_ge 38 dX1_unlearn_5 (by decide) h (fun h => ?_) (fun h => ?_)
    · cases h
      exact GoC.vret dX1_unlearn_38 rfl
    · refine GC.aload_n 0 dX1_unlearn_8 rfl ?_
      refine GC.getr 1 1 rfl (by decide) (by decide) fw_X1_9 (Or.inl rfl) dX1_unlearn_9 h (fun v1 h => ?_)
      refine GoC.iload_n 1 dX1_unlearn_12 rfl ?_
      refine GoC.bipush 40 dX1_unlearn_13 (by decide) ?_
      refine GoC.imul dX1_unlearn_15 ?_
      refine GoC.iload_n 2 dX1_unlearn_16 rfl ?_
      refine GoC.iadd dX1_unlearn_17 ?_
      refine GoC.iconst (-1) dX1_unlearn_18 (by decide) ?_
      refine GC.iast dX1_unlearn_19 h (fun σ2 h => ?_)
      refine GC.aload_n 0 dX1_unlearn_20 rfl ?_
      refine GC.getr 1 1 rfl (by decide) (by decide) fw_X1_9 (Or.inl rfl) dX1_unlearn_21 h (fun v3 h => ?_)
      refine GoC.iload_n 2 dX1_unlearn_24 rfl ?_
      refine GoC.bipush 40 dX1_unlearn_25 (by decide) ?_
      refine GoC.imul dX1_unlearn_27 ?_
      refine GoC.iload_n 1 dX1_unlearn_28 rfl ?_
      refine GoC.iadd dX1_unlearn_29 ?_
      refine GoC.iconst (-1) dX1_unlearn_30 (by decide) ?_
      refine GC.iast dX1_unlearn_31 h (fun σ4 h => ?_)
      refine GoC.iinc (w := 1) 2 [(0, G.rv x0), (1, .int x1), (2, .int (x2 + 1))] dX1_unlearn_32 rfl (by decide) (by decide) rfl ?_
      refine GoC.goto 2 dX1_unlearn_35 (by decide) ?_
      exact ih _ _ _ _ h
set_option maxRecDepth 20000 in
theorem ksX1_unlearn {l : Launch} {G : Gt} {n0 u0 : Nat} {σ : Hp} {Z : Hp} (x0 : Nat) (x1 : Int32) (h : kX1_unlearn σ x0 x1 = some Z) : GoC l G RX1 "unlearn" cX1_unlearn 3 none 0 0 n0 u0 none Z 0 [(0, G.rv x0), (1, .int x1)] [] σ := by
  unfold kX1_unlearn at h
  refine GoC.iconst 0 dX1_unlearn_0 (by decide) ?_
  refine GoC.istore_n [(0, G.rv x0), (1, .int x1), (2, .int 0)] dX1_unlearn_1 (by decide) rfl ?_
  exact ksX1_unlearn_2 _ _ _ _ _ h
set_option maxRecDepth 20000 in
theorem ktX1_unlearn {l : Launch} {G : Gt} {σ : Hp} (x0 : Nat) (x1 : Int32) : ∀ Z, kX1_unlearn σ x0 x1 = some Z → MtC l G yX1_unlearn cX1_unlearn 3 none 0 0 [G.rv x0, .int x1] σ none Z := fun Z h => MtC.at (by decide +kernel) ⟨G.rv_cat _, rfl, trivial⟩ (Nat.le_of_ble_eq_true rfl) (ksX1_unlearn x0 x1 h)
/-! X2_spellOut -/
def kX2_spellOut_63 (k31 : Nat → Int32 → Int32 → Int32 → Hp → Option (Int32 × Hp)) (x1 : Nat) (x2 : Int32) (x3 : Int32) (x4 : Int32) (σ : Hp) : Option (Int32 × Hp) := k31 x1 x2 x3 (x4 + (-1)) σ
def kX2_spellOut_31  : Nat → Nat → Int32 → Int32 → Int32 → Hp → Option (Int32 × Hp)
  | 0, _, _, _, _, _ => none
  | n + 1, x1, x2, x3, x4, σ => if x4 < 0 then some (x2, σ) else if x2 ≤ x4 then (ast σ 1 x1 x4 0).bind (fun σ1 => kX2_spellOut_63 (kX2_spellOut_31 n) x1 x2 x3 x4 σ1) else (ast σ 1 x1 x4 (x3 - x3 / 9 * 9)).bind (fun σ2 => kX2_spellOut_63 (kX2_spellOut_31 n) x1 x2 (x3 / 9) x4 σ2)
def kX2_spellOut_26  (x0 : Int32) (x1 : Nat) (x2 : Int32) (σ : Hp) : Option (Int32 × Hp) := kX2_spellOut_31 FU x1 x2 x0 5 σ
def kX2_spellOut_4  : Nat → Int32 → Nat → Int32 → Int32 → Hp → Option (Int32 × Hp)
  | 0, _, _, _, _, _ => none
  | n + 1, x0, x1, x2, x3, σ => if 6 ≤ x2 then kX2_spellOut_26 x0 x1 x2 σ else if x0 < x3 then kX2_spellOut_26 x0 x1 x2 σ else kX2_spellOut_4 n x0 x1 (x2 + 1) (x3 * 9) σ
def kX2_spellOut (σ : Hp) (x0 : Int32) (x1 : Nat) : Option (Int32 × Hp) := kX2_spellOut_4 FU x0 x1 0 1 σ
set_option maxRecDepth 20000 in
theorem ksX2_spellOut_63 {l : Launch} {G : Gt} {n0 u0 : Nat} {Z : Int32 × Hp} (k31 : Nat → Int32 → Int32 → Int32 → Hp → Option (Int32 × Hp)) (h31 : ∀ (x1 : Nat) (x2 : Int32) (x3 : Int32) (x4 : Int32) (σ : Hp), k31 x1 x2 x3 x4 σ = some Z → GoC l G RX2 "spellOut" cX2_spellOut 5 (some .int) 0 0 n0 u0 (some (.int Z.1)) Z.2 31 [(1, G.rv x1), (2, .int x2), (3, .int x3), (4, .int x4)] [] σ) (x1 : Nat) (x2 : Int32) (x3 : Int32) (x4 : Int32) (σ : Hp) (h : kX2_spellOut_63 k31 x1 x2 x3 x4 σ = some Z) : GoC l G RX2 "spellOut" cX2_spellOut 5 (some .int) 0 0 n0 u0 (some (.int Z.1)) Z.2 63 [(1, G.rv x1), (2, .int x2), (3, .int x3), (4, .int x4)] [] σ := by
  unfold kX2_spellOut_63 at h
  refine GoC.iinc (w := (-1)) 3 [(1, G.rv x1), (2, .int x2), (3, .int x3), (4, .int (x4 + (-1)))] dX2_spellOut_63 rfl (by decide) (by decide) rfl ?_
  refine GoC.goto 31 dX2_spellOut_66 (by decide) ?_
  exact h31 _ _ _ _ _ h
set_option maxRecDepth 20000 in
theorem ksX2_spellOut_31 {l : Launch} {G : Gt} {n0 u0 : Nat} {Z : Int32 × Hp} (n : Nat) : ∀ (x1 : Nat) (x2 : Int32) (x3 : Int32) (x4 : Int32) (σ : Hp), kX2_spellOut_31 n x1 x2 x3 x4 σ = some Z → GoC l G RX2 "spellOut" cX2_spellOut 5 (some .int) 0 0 n0 u0 (some (.int Z.1)) Z.2 31 [(1, G.rv x1), (2, .int x2), (3, .int x3), (4, .int x4)] [] σ := by
  induction n with
  | zero => intro x1 x2 x3 x4 σ h; rw [kX2_spellOut_31] at h; cases h
  | succ n ih =>
    intro x1 x2 x3 x4 σ h
    rw [kX2_spellOut_31] at h
    refine GoC.iload 3 dX2_spellOut_31 rfl ?_
    refine GoC.if_lt 69 dX2_spellOut_33 (by decide) h (fun h => ?_) (fun h => ?_)
    · refine GoC.iload_n 1 dX2_spellOut_69 rfl ?_
      cases h
      exact GoC.iret dX2_spellOut_70 rfl
    · refine GoC.iload 3 dX2_spellOut_36 rfl ?_
      refine GoC.iload_n 1 dX2_spellOut_38 rfl ?_
      refine GoC.icmp_ge 58 dX2_spellOut_39 (by decide) h (fun h => ?_) (fun h => ?_)
      · refine GC.aload_n 0 dX2_spellOut_58 rfl ?_
        refine GoC.iload 3 dX2_spellOut_59 rfl ?_
        refine GoC.iconst 0 dX2_spellOut_61 (by decide) ?_
        refine GC.iast dX2_spellOut_62 h (fun σ1 h => ?_)
        exact ksX2_spellOut_63 _ ih _ _ _ _ _ h
      · refine GC.aload_n 0 dX2_spellOut_42 rfl ?_
        refine GoC.iload 3 dX2_spellOut_43 rfl ?_
        refine GoC.iload_n 2 dX2_spellOut_45 rfl ?_
        refine GoC.bipush 9 dX2_spellOut_46 (by decide) ?_
        refine GoC.irem dX2_spellOut_48 (by decide) ?_
        refine GC.iast dX2_spellOut_49 h (fun σ2 h => ?_)
        refine GoC.iload_n 2 dX2_spellOut_50 rfl ?_
        refine GoC.bipush 9 dX2_spellOut_51 (by decide) ?_
        refine GoC.idiv dX2_spellOut_53 (by decide) ?_
        refine GoC.istore_n [(1, G.rv x1), (2, .int x2), (3, .int (x3 / 9)), (4, .int x4)] dX2_spellOut_54 (by decide) rfl ?_
        refine GoC.goto 63 dX2_spellOut_55 (by decide) ?_
        exact ksX2_spellOut_63 _ ih _ _ _ _ _ h
set_option maxRecDepth 20000 in
theorem ksX2_spellOut_26 {l : Launch} {G : Gt} {n0 u0 : Nat} {Z : Int32 × Hp} (x0 : Int32) (x1 : Nat) (x2 : Int32) (σ : Hp) (h : kX2_spellOut_26 x0 x1 x2 σ = some Z) : GoC l G RX2 "spellOut" cX2_spellOut 5 (some .int) 0 0 n0 u0 (some (.int Z.1)) Z.2 26 [(0, .int x0), (1, G.rv x1), (2, .int x2)] [] σ := by
  unfold kX2_spellOut_26 at h
  refine GoC.iload_n 0 dX2_spellOut_26 rfl ?_
  refine GoC.istore_n [(0, .int x0), (1, G.rv x1), (2, .int x2), (3, .int x0)] dX2_spellOut_27 (by decide) rfl ?_
  refine GoC.iconst 5 dX2_spellOut_28 (by decide) ?_
  refine GoC.istore [(0, .int x0), (1, G.rv x1), (2, .int x2), (3, .int x0), (4, .int 5)] dX2_spellOut_29 (by decide) rfl ?_
  refine GoC.sub [1, 2, 3, 4] rfl ?_
  exact ksX2_spellOut_31 _ _ _ _ _ _ h
set_option maxRecDepth 20000 in
theorem ksX2_spellOut_4 {l : Launch} {G : Gt} {n0 u0 : Nat} {Z : Int32 × Hp} (n : Nat) : ∀ (x0 : Int32) (x1 : Nat) (x2 : Int32) (x3 : Int32) (σ : Hp), kX2_spellOut_4 n x0 x1 x2 x3 σ = some Z → GoC l G RX2 "spellOut" cX2_spellOut 5 (some .int) 0 0 n0 u0 (some (.int Z.1)) Z.2 4 [(0, .int x0), (1, G.rv x1), (2, .int x2), (3, .int x3)] [] σ := by
  induction n with
  | zero => intro x0 x1 x2 x3 σ h; rw [kX2_spellOut_4] at h; cases h
  | succ n ih =>
    intro x0 x1 x2 x3 σ h
    rw [kX2_spellOut_4] at h
    refine GoC.iload_n 2 dX2_spellOut_4 rfl ?_
    refine GoC.bipush 6 dX2_spellOut_5 (by decide) ?_
    refine GoC.icmp_ge 26 dX2_spellOut_7 (by decide) h (fun h => ?_) (fun h => ?_)
    · refine GoC.sub [0, 1, 2] rfl ?_
      exact ksX2_spellOut_26 _ _ _ _ h
    · refine GoC.iload_n 3 dX2_spellOut_10 rfl ?_
      refine GoC.iload_n 0 dX2_spellOut_11 rfl ?_
      refine GoC.icmp_gt 26 dX2_spellOut_12 (by decide) h (fun h => ?_) (fun h => ?_)
      · refine GoC.sub [0, 1, 2] rfl ?_
        exact ksX2_spellOut_26 _ _ _ _ h
      · refine GoC.iinc (w := 1) 2 [(0, .int x0), (1, G.rv x1), (2, .int (x2 + 1)), (3, .int x3)] dX2_spellOut_15 rfl (by decide) (by decide) rfl ?_
        refine GoC.iload_n 3 dX2_spellOut_18 rfl ?_
        refine GoC.bipush 9 dX2_spellOut_19 (by decide) ?_
        refine GoC.imul dX2_spellOut_21 ?_
        refine GoC.istore_n [(0, .int x0), (1, G.rv x1), (2, .int (x2 + 1)), (3, .int (x3 * 9))] dX2_spellOut_22 (by decide) rfl ?_
        refine GoC.goto 4 dX2_spellOut_23 (by decide) ?_
        exact ih _ _ _ _ _ h
set_option maxRecDepth 20000 in
theorem ksX2_spellOut {l : Launch} {G : Gt} {n0 u0 : Nat} {σ : Hp} {Z : Int32 × Hp} (x0 : Int32) (x1 : Nat) (h : kX2_spellOut σ x0 x1 = some Z) : GoC l G RX2 "spellOut" cX2_spellOut 5 (some .int) 0 0 n0 u0 (some (.int Z.1)) Z.2 0 [(0, .int x0), (1, G.rv x1)] [] σ := by
  unfold kX2_spellOut at h
  refine GoC.iconst 0 dX2_spellOut_0 (by decide) ?_
  refine GoC.istore_n [(0, .int x0), (1, G.rv x1), (2, .int 0)] dX2_spellOut_1 (by decide) rfl ?_
  refine GoC.iconst 1 dX2_spellOut_2 (by decide) ?_
  refine GoC.istore_n [(0, .int x0), (1, G.rv x1), (2, .int 0), (3, .int 1)] dX2_spellOut_3 (by decide) rfl ?_
  exact ksX2_spellOut_4 _ _ _ _ _ _ h
set_option maxRecDepth 20000 in
theorem ktX2_spellOut {l : Launch} {G : Gt} {σ : Hp} (x0 : Int32) (x1 : Nat) : ∀ Z, kX2_spellOut σ x0 x1 = some Z → MtC l G yX2_spellOut cX2_spellOut 5 (some .int) 0 0 [.int x0, G.rv x1] σ (some (.int Z.1)) Z.2 := fun Z h => MtC.at (by decide +kernel) ⟨rfl, G.rv_cat _, trivial⟩ (Nat.le_of_ble_eq_true rfl) (ksX2_spellOut x0 x1 h)
/-! X2_byEdit -/
def kX2_byEdit_148 (k22 : Nat → Int32 → Int32 → Int32 → Hp → Option (Int32 × Hp)) (k37 : Nat → Int32 → Int32 → Int32 → Int32 → Hp → Option (Int32 × Hp)) (x0 : Nat) (x1 : Int32) (x2 : Int32) (x3 : Int32) (x4 : Int32) (y0 : Nat) (y1 : Int32) (y2 : Int32) (σ : Hp) : Option (Int32 × Hp) := (ast σ 1 y0 y1 y2).bind (fun σ1 => k37 x0 x1 x2 x3 (x4 + 1) σ1)
def kX2_byEdit_108 (k22 : Nat → Int32 → Int32 → Int32 → Hp → Option (Int32 × Hp)) (k37 : Nat → Int32 → Int32 → Int32 → Int32 → Hp → Option (Int32 × Hp)) (x0 : Nat) (x1 : Int32) (x2 : Int32) (x3 : Int32) (x4 : Int32) (y0 : Int32) (σ : Hp) : Option (Int32 × Hp) := (gfr σ 12 203 x0).bind (fun v2 => (gfr σ 12 203 x0).bind (fun v3 => (ald σ 1 v3 (x4 - 1)).bind (fun v4 => if y0 ≤ (v4 + 1) then kX2_byEdit_148 k22 k37 x0 x1 x2 x3 x4 v2 x4 y0 σ else (gfr σ 12 203 x0).bind (fun v5 => (ald σ 1 v5 (x4 - 1)).bind (fun v6 => kX2_byEdit_148 k22 k37 x0 x1 x2 x3 x4 v2 x4 (v6 + 1) σ)))))
def kX2_byEdit_77 (k22 : Nat → Int32 → Int32 → Int32 → Hp → Option (Int32 × Hp)) (k37 : Nat → Int32 → Int32 → Int32 → Int32 → Hp → Option (Int32 × Hp)) (x0 : Nat) (x1 : Int32) (x2 : Int32) (x3 : Int32) (x4 : Int32) (y0 : Int32) (y1 : Int32) (σ : Hp) : Option (Int32 × Hp) := (gfr σ 12 202 x0).bind (fun v7 => (ald σ 1 v7 x4).bind (fun v8 => if (y0 + y1) ≤ (v8 + 1) then kX2_byEdit_108 k22 k37 x0 x1 x2 x3 x4 (y0 + y1) σ else (gfr σ 12 202 x0).bind (fun v9 => (ald σ 1 v9 x4).bind (fun v10 => kX2_byEdit_108 k22 k37 x0 x1 x2 x3 x4 (v10 + 1) σ))))
def kX2_byEdit_37 (k22 : Nat → Int32 → Int32 → Int32 → Hp → Option (Int32 × Hp)) : Nat → Nat → Int32 → Int32 → Int32 → Int32 → Hp → Option (Int32 × Hp)
  | 0, _, _, _, _, _, _ => none
  | n + 1, x0, x1, x2, x3, x4, σ => if x2 < x4 then (gfr σ 12 202 x0).bind (fun v11 => (gfr σ 12 203 x0).bind (fun v12 => (pfr σ 12 202 x0 v12).bind (fun σ13 => (pfr σ13 12 203 x0 v11).bind (fun σ14 => k22 x0 x1 x2 (x3 + 1) σ14)))) else (gfr σ 12 202 x0).bind (fun v15 => (ald σ 1 v15 (x4 - 1)).bind (fun v16 => (gfr σ 12 200 x0).bind (fun v17 => (ald σ 1 v17 (x3 - 1)).bind (fun v18 => (gfr σ 12 201 x0).bind (fun v19 => (ald σ 1 v19 (x4 - 1)).bind (fun v20 => if v18 = v20 then kX2_byEdit_77 k22 (kX2_byEdit_37 k22 n) x0 x1 x2 x3 x4 v16 0 σ else kX2_byEdit_77 k22 (kX2_byEdit_37 k22 n) x0 x1 x2 x3 x4 v16 1 σ))))))
def kX2_byEdit_22  : Nat → Nat → Int32 → Int32 → Int32 → Hp → Option (Int32 × Hp)
  | 0, _, _, _, _, _ => none
  | n + 1, x0, x1, x2, x3, σ => if x1 < x3 then if x2 < 0 then some (0, σ) else if 6 < x2 then some (0, σ) else (gfr σ 12 202 x0).bind (fun v21 => (ald σ 1 v21 x2).bind (fun v22 => some (v22, σ))) else (gfr σ 12 203 x0).bind (fun v23 => (ast σ 1 v23 0 x3).bind (fun σ24 => kX2_byEdit_37 (kX2_byEdit_22 n) FU x0 x1 x2 x3 1 σ24))
def kX2_byEdit_2  : Nat → Nat → Int32 → Int32 → Int32 → Hp → Option (Int32 × Hp)
  | 0, _, _, _, _, _ => none
  | n + 1, x0, x1, x2, x3, σ => if x2 < x3 then kX2_byEdit_22 FU x0 x1 x2 1 σ else (gfr σ 12 202 x0).bind (fun v25 => (ast σ 1 v25 x3 x3).bind (fun σ26 => kX2_byEdit_2 n x0 x1 x2 (x3 + 1) σ26))
def kX2_byEdit (σ : Hp) (x0 : Nat) (x1 : Int32) (x2 : Int32) : Option (Int32 × Hp) := kX2_byEdit_2 FU x0 x1 x2 0 σ
set_option maxRecDepth 20000 in
theorem ksX2_byEdit_148 {l : Launch} {G : Gt} {n0 u0 : Nat} {Z : Int32 × Hp} (k22 : Nat → Int32 → Int32 → Int32 → Hp → Option (Int32 × Hp)) (h22 : ∀ (x0 : Nat) (x1 : Int32) (x2 : Int32) (x3 : Int32) (σ : Hp), k22 x0 x1 x2 x3 σ = some Z → GoC l G RX2 "byEdit" cX2_byEdit 6 (some .int) 0 0 n0 u0 (some (.int Z.1)) Z.2 22 [(0, G.rv x0), (1, .int x1), (2, .int x2), (3, .int x3)] [] σ) (k37 : Nat → Int32 → Int32 → Int32 → Int32 → Hp → Option (Int32 × Hp)) (h37 : ∀ (x0 : Nat) (x1 : Int32) (x2 : Int32) (x3 : Int32) (x4 : Int32) (σ : Hp), k37 x0 x1 x2 x3 x4 σ = some Z → GoC l G RX2 "byEdit" cX2_byEdit 6 (some .int) 0 0 n0 u0 (some (.int Z.1)) Z.2 37 [(0, G.rv x0), (1, .int x1), (2, .int x2), (3, .int x3), (4, .int x4)] [] σ) (x0 : Nat) (x1 : Int32) (x2 : Int32) (x3 : Int32) (x4 : Int32) (y0 : Nat) (y1 : Int32) (y2 : Int32) (σ : Hp) (h : kX2_byEdit_148 k22 k37 x0 x1 x2 x3 x4 y0 y1 y2 σ = some Z) : GoC l G RX2 "byEdit" cX2_byEdit 6 (some .int) 0 0 n0 u0 (some (.int Z.1)) Z.2 148 [(0, G.rv x0), (1, .int x1), (2, .int x2), (3, .int x3), (4, .int x4)] [.int y2, .int y1, G.rv y0] σ := by
  unfold kX2_byEdit_148 at h
  refine GC.iast dX2_byEdit_148 h (fun σ1 h => ?_)
  refine GoC.iinc (w := 1) 4 [(0, G.rv x0), (1, .int x1), (2, .int x2), (3, .int x3), (4, .int (x4 + 1))] dX2_byEdit_149 rfl (by decide) (by decide) rfl ?_
  refine GoC.goto 37 dX2_byEdit_152 (by decide) ?_
  exact h37 _ _ _ _ _ _ h
set_option maxRecDepth 20000 in
theorem ksX2_byEdit_108 {l : Launch} {G : Gt} {n0 u0 : Nat} {Z : Int32 × Hp} (k22 : Nat → Int32 → Int32 → Int32 → Hp → Option (Int32 × Hp)) (h22 : ∀ (x0 : Nat) (x1 : Int32) (x2 : Int32) (x3 : Int32) (σ : Hp), k22 x0 x1 x2 x3 σ = some Z → GoC l G RX2 "byEdit" cX2_byEdit 6 (some .int) 0 0 n0 u0 (some (.int Z.1)) Z.2 22 [(0, G.rv x0), (1, .int x1), (2, .int x2), (3, .int x3)] [] σ) (k37 : Nat → Int32 → Int32 → Int32 → Int32 → Hp → Option (Int32 × Hp)) (h37 : ∀ (x0 : Nat) (x1 : Int32) (x2 : Int32) (x3 : Int32) (x4 : Int32) (σ : Hp), k37 x0 x1 x2 x3 x4 σ = some Z → GoC l G RX2 "byEdit" cX2_byEdit 6 (some .int) 0 0 n0 u0 (some (.int Z.1)) Z.2 37 [(0, G.rv x0), (1, .int x1), (2, .int x2), (3, .int x3), (4, .int x4)] [] σ) (x0 : Nat) (x1 : Int32) (x2 : Int32) (x3 : Int32) (x4 : Int32) (y0 : Int32) (σ : Hp) (h : kX2_byEdit_108 k22 k37 x0 x1 x2 x3 x4 y0 σ = some Z) : GoC l G RX2 "byEdit" cX2_byEdit 6 (some .int) 0 0 n0 u0 (some (.int Z.1)) Z.2 108 [(0, G.rv x0), (1, .int x1), (2, .int x2), (3, .int x3), (4, .int x4)] [.int y0] σ := by
  unfold kX2_byEdit_108 at h
  refine GoC.istore [(0, G.rv x0), (1, .int x1), (2, .int x2), (3, .int x3), (4, .int x4), (5, .int y0)] dX2_byEdit_108 (by decide) rfl ?_
  refine GC.aload_n 0 dX2_byEdit_110 rfl ?_
  refine GC.getr 2 3 rfl (by decide) (by decide) fw_X2_21 (Or.inl rfl) dX2_byEdit_111 h (fun v2 h => ?_)
  refine GoC.iload 4 dX2_byEdit_114 rfl ?_
  refine GC.aload_n 0 dX2_byEdit_116 rfl ?_
  refine GC.getr 2 3 rfl (by decide) (by decide) fw_X2_21 (Or.inl rfl) dX2_byEdit_117 h (fun v3 h => ?_)
  refine GoC.iload 4 dX2_byEdit_120 rfl ?_
  refine GoC.iconst 1 dX2_byEdit_122 (by decide) ?_
  refine GoC.isub dX2_byEdit_123 ?_
  refine GC.iald dX2_byEdit_124 h (fun v4 h => ?_)
  refine GoC.iconst 1 dX2_byEdit_125 (by decide) ?_
  refine GoC.iadd dX2_byEdit_126 ?_
  refine GoC.iload 5 dX2_byEdit_127 rfl ?_
  refine GoC.icmp_ge 146 dX2_byEdit_129 (by decide) h (fun h => ?_) (fun h => ?_)
  · refine GoC.iload 5 dX2_byEdit_146 rfl ?_
    refine GoC.sub [0, 1, 2, 3, 4] rfl ?_
    exact ksX2_byEdit_148 _ h22 _ h37 _ _ _ _ _ _ _ _ _ h
  · refine GC.aload_n 0 dX2_byEdit_132 rfl ?_
    refine GC.getr 2 3 rfl (by decide) (by decide) fw_X2_21 (Or.inl rfl) dX2_byEdit_133 h (fun v5 h => ?_)
    refine GoC.iload 4 dX2_byEdit_136 rfl ?_
    refine GoC.iconst 1 dX2_byEdit_138 (by decide) ?_
    refine GoC.isub dX2_byEdit_139 ?_
    refine GC.iald dX2_byEdit_140 h (fun v6 h => ?_)
    refine GoC.iconst 1 dX2_byEdit_141 (by decide) ?_
    refine GoC.iadd dX2_byEdit_142 ?_
    refine GoC.goto 148 dX2_byEdit_143 (by decide) ?_
    refine GoC.sub [0, 1, 2, 3, 4] rfl ?_
    exact ksX2_byEdit_148 _ h22 _ h37 _ _ _ _ _ _ _ _ _ h
set_option maxRecDepth 20000 in
theorem ksX2_byEdit_77 {l : Launch} {G : Gt} {n0 u0 : Nat} {Z : Int32 × Hp} (k22 : Nat → Int32 → Int32 → Int32 → Hp → Option (Int32 × Hp)) (h22 : ∀ (x0 : Nat) (x1 : Int32) (x2 : Int32) (x3 : Int32) (σ : Hp), k22 x0 x1 x2 x3 σ = some Z → GoC l G RX2 "byEdit" cX2_byEdit 6 (some .int) 0 0 n0 u0 (some (.int Z.1)) Z.2 22 [(0, G.rv x0), (1, .int x1), (2, .int x2), (3, .int x3)] [] σ) (k37 : Nat → Int32 → Int32 → Int32 → Int32 → Hp → Option (Int32 × Hp)) (h37 : ∀ (x0 : Nat) (x1 : Int32) (x2 : Int32) (x3 : Int32) (x4 : Int32) (σ : Hp), k37 x0 x1 x2 x3 x4 σ = some Z → GoC l G RX2 "byEdit" cX2_byEdit 6 (some .int) 0 0 n0 u0 (some (.int Z.1)) Z.2 37 [(0, G.rv x0), (1, .int x1), (2, .int x2), (3, .int x3), (4, .int x4)] [] σ) (x0 : Nat) (x1 : Int32) (x2 : Int32) (x3 : Int32) (x4 : Int32) (y0 : Int32) (y1 : Int32) (σ : Hp) (h : kX2_byEdit_77 k22 k37 x0 x1 x2 x3 x4 y0 y1 σ = some Z) : GoC l G RX2 "byEdit" cX2_byEdit 6 (some .int) 0 0 n0 u0 (some (.int Z.1)) Z.2 77 [(0, G.rv x0), (1, .int x1), (2, .int x2), (3, .int x3), (4, .int x4)] [.int y1, .int y0] σ := by
  unfold kX2_byEdit_77 at h
  refine GoC.iadd dX2_byEdit_77 ?_
  refine GoC.istore [(0, G.rv x0), (1, .int x1), (2, .int x2), (3, .int x3), (4, .int x4), (5, .int (y0 + y1))] dX2_byEdit_78 (by decide) rfl ?_
  refine GC.aload_n 0 dX2_byEdit_80 rfl ?_
  refine GC.getr 2 2 rfl (by decide) (by decide) fw_X2_18 (Or.inl rfl) dX2_byEdit_81 h (fun v7 h => ?_)
  refine GoC.iload 4 dX2_byEdit_84 rfl ?_
  refine GC.iald dX2_byEdit_86 h (fun v8 h => ?_)
  refine GoC.iconst 1 dX2_byEdit_87 (by decide) ?_
  refine GoC.iadd dX2_byEdit_88 ?_
  refine GoC.iload 5 dX2_byEdit_89 rfl ?_
  refine GoC.icmp_ge 106 dX2_byEdit_91 (by decide) h (fun h => ?_) (fun h => ?_)
  · refine GoC.iload 5 dX2_byEdit_106 rfl ?_
    refine GoC.sub [0, 1, 2, 3, 4] rfl ?_
    exact ksX2_byEdit_108 _ h22 _ h37 _ _ _ _ _ _ _ h
  · refine GC.aload_n 0 dX2_byEdit_94 rfl ?_
    refine GC.getr 2 2 rfl (by decide) (by decide) fw_X2_18 (Or.inl rfl) dX2_byEdit_95 h (fun v9 h => ?_)
    refine GoC.iload 4 dX2_byEdit_98 rfl ?_
    refine GC.iald dX2_byEdit_100 h (fun v10 h => ?_)
    refine GoC.iconst 1 dX2_byEdit_101 (by decide) ?_
    refine GoC.iadd dX2_byEdit_102 ?_
    refine GoC.goto 108 dX2_byEdit_103 (by decide) ?_
    refine GoC.sub [0, 1, 2, 3, 4] rfl ?_
    exact ksX2_byEdit_108 _ h22 _ h37 _ _ _ _ _ _ _ h
set_option maxRecDepth 20000 in
theorem ksX2_byEdit_37 {l : Launch} {G : Gt} {n0 u0 : Nat} {Z : Int32 × Hp} (k22 : Nat → Int32 → Int32 → Int32 → Hp → Option (Int32 × Hp)) (h22 : ∀ (x0 : Nat) (x1 : Int32) (x2 : Int32) (x3 : Int32) (σ : Hp), k22 x0 x1 x2 x3 σ = some Z → GoC l G RX2 "byEdit" cX2_byEdit 6 (some .int) 0 0 n0 u0 (some (.int Z.1)) Z.2 22 [(0, G.rv x0), (1, .int x1), (2, .int x2), (3, .int x3)] [] σ) (n : Nat) : ∀ (x0 : Nat) (x1 : Int32) (x2 : Int32) (x3 : Int32) (x4 : Int32) (σ : Hp), kX2_byEdit_37 k22 n x0 x1 x2 x3 x4 σ = some Z → GoC l G RX2 "byEdit" cX2_byEdit 6 (some .int) 0 0 n0 u0 (some (.int Z.1)) Z.2 37 [(0, G.rv x0), (1, .int x1), (2, .int x2), (3, .int x3), (4, .int x4)] [] σ := by
  induction n with
  | zero => intro x0 x1 x2 x3 x4 σ h; rw [kX2_byEdit_37] at h; cases h
  | succ n ih =>
    intro x0 x1 x2 x3 x4 σ h
    rw [kX2_byEdit_37] at h
    refine GoC.iload 4 dX2_byEdit_37 rfl ?_
    refine GoC.iload_n 2 dX2_byEdit_39 rfl ?_
    refine GoC.icmp_gt 155 dX2_byEdit_40 (by decide) h (fun h => ?_) (fun h => ?_)
    · refine GC.aload_n 0 dX2_byEdit_155 rfl ?_
      refine GC.getr 2 2 rfl (by decide) (by decide) fw_X2_18 (Or.inl rfl) dX2_byEdit_156 h (fun v11 h => ?_)
      refine GC.astore [(0, G.rv x0), (1, .int x1), (2, .int x2), (3, .int x3), (4, G.rv v11)] dX2_byEdit_159 (by decide) rfl ?_
      refine GC.aload_n 0 dX2_byEdit_161 rfl ?_
      refine GC.aload_n 0 dX2_byEdit_162 rfl ?_
      refine GC.getr 2 3 rfl (by decide) (by decide) fw_X2_21 (Or.inl rfl) dX2_byEdit_163 h (fun v12 h => ?_)
      refine GC.putr 2 2 rfl (by decide) (by decide) (Or.inr ⟨_, rfl⟩) fw_X2_18 (Or.inl rfl) (Or.inl rfl) dX2_byEdit_166 h (fun σ13 h => ?_)
      refine GC.aload_n 0 dX2_byEdit_169 rfl ?_
      refine GC.aload 4 dX2_byEdit_170 rfl ?_
      refine GC.putr 2 3 rfl (by decide) (by decide) (Or.inr ⟨_, rfl⟩) fw_X2_21 (Or.inl rfl) (Or.inl rfl) dX2_byEdit_172 h (fun σ14 h => ?_)
      refine GoC.iinc (w := 1) 3 [(0, G.rv x0), (1, .int x1), (2, .int x2), (3, .int (x3 + 1)), (4, G.rv v11)] dX2_byEdit_175 rfl (by decide) (by decide) rfl ?_
      refine GoC.goto 22 dX2_byEdit_178 (by decide) ?_
      refine GoC.sub [0, 1, 2, 3] rfl ?_
      exact h22 _ _ _ _ _ h
    · refine GC.aload_n 0 dX2_byEdit_43 rfl ?_
      refine GC.getr 2 2 rfl (by decide) (by decide) fw_X2_18 (Or.inl rfl) dX2_byEdit_44 h (fun v15 h => ?_)
      refine GoC.iload 4 dX2_byEdit_47 rfl ?_
      refine GoC.iconst 1 dX2_byEdit_49 (by decide) ?_
      refine GoC.isub dX2_byEdit_50 ?_
      refine GC.iald dX2_byEdit_51 h (fun v16 h => ?_)
      refine GC.aload_n 0 dX2_byEdit_52 rfl ?_
      refine GC.getr 2 0 rfl (by decide) (by decide) fw_X2_9 (Or.inl rfl) dX2_byEdit_53 h (fun v17 h => ?_)
      refine GoC.iload_n 3 dX2_byEdit_56 rfl ?_
      refine GoC.iconst 1 dX2_byEdit_57 (by decide) ?_
      refine GoC.isub dX2_byEdit_58 ?_
      refine GC.iald dX2_byEdit_59 h (fun v18 h => ?_)
      refine GC.aload_n 0 dX2_byEdit_60 rfl ?_
      refine GC.getr 2 1 rfl (by decide) (by decide) fw_X2_15 (Or.inl rfl) dX2_byEdit_61 h (fun v19 h => ?_)
      refine GoC.iload 4 dX2_byEdit_64 rfl ?_
      refine GoC.iconst 1 dX2_byEdit_66 (by decide) ?_
      refine GoC.isub dX2_byEdit_67 ?_
      refine GC.iald dX2_byEdit_68 h (fun v20 h => ?_)
      refine GoC.icmp_ne 76 dX2_byEdit_69 (by decide) h (fun h => ?_) (fun h => ?_)
      · refine GoC.iconst 1 dX2_byEdit_76 (by decide) ?_
        exact ksX2_byEdit_77 _ h22 _ ih _ _ _ _ _ _ _ _ h
      · refine GoC.iconst 0 dX2_byEdit_72 (by decide) ?_
        refine GoC.goto 77 dX2_byEdit_73 (by decide) ?_
        exact ksX2_byEdit_77 _ h22 _ ih _ _ _ _ _ _ _ _ h
set_option maxRecDepth 20000 in
theorem ksX2_byEdit_22 {l : Launch} {G : Gt} {n0 u0 : Nat} {Z : Int32 × Hp} (n : Nat) : ∀ (x0 : Nat) (x1 : Int32) (x2 : Int32) (x3 : Int32) (σ : Hp), kX2_byEdit_22 n x0 x1 x2 x3 σ = some Z → GoC l G RX2 "byEdit" cX2_byEdit 6 (some .int) 0 0 n0 u0 (some (.int Z.1)) Z.2 22 [(0, G.rv x0), (1, .int x1), (2, .int x2), (3, .int x3)] [] σ := by
  induction n with
  | zero => intro x0 x1 x2 x3 σ h; rw [kX2_byEdit_22] at h; cases h
  | succ n ih =>
    intro x0 x1 x2 x3 σ h
    rw [kX2_byEdit_22] at h
    refine GoC.iload_n 3 dX2_byEdit_22 rfl ?_
    refine GoC.iload_n 1 dX2_byEdit_23 rfl ?_
    refine GoC.icmp_gt 181 dX2_byEdit_24 (by decide) h (fun h => ?_) (fun h => ?_)
    · refine GoC.iload_n 2 dX2_byEdit_181 rfl ?_
      refine GoC.if_lt 200 dX2_byEdit_182 (by decide) h (fun h => ?_) (fun h => ?_)
      · refine GoC.iconst 0 dX2_byEdit_200 (by decide) ?_
        cases h
        exact GoC.iret dX2_byEdit_201 rfl
      · refine GoC.iload_n 2 dX2_byEdit_185 rfl ?_
        refine GoC.bipush 6 dX2_byEdit_186 (by decide) ?_
        refine GoC.icmp_gt 200 dX2_byEdit_188 (by decide) h (fun h => ?_) (fun h => ?_)
        · refine GoC.iconst 0 dX2_byEdit_200 (by decide) ?_
          cases h
          exact GoC.iret dX2_byEdit_201 rfl
        · refine GC.aload_n 0 dX2_byEdit_191 rfl ?_
          refine GC.getr 2 2 rfl (by decide) (by decide) fw_X2_18 (Or.inl rfl) dX2_byEdit_192 h (fun v21 h => ?_)
          refine GoC.iload_n 2 dX2_byEdit_195 rfl ?_
          refine GC.iald dX2_byEdit_196 h (fun v22 h => ?_)
          refine GoC.goto 201 dX2_byEdit_197 (by decide) ?_
          cases h
          exact GoC.iret dX2_byEdit_201 rfl
    · refine GC.aload_n 0 dX2_byEdit_27 rfl ?_
      refine GC.getr 2 3 rfl (by decide) (by decide) fw_X2_21 (Or.inl rfl) dX2_byEdit_28 h (fun v23 h => ?_)
      refine GoC.iconst 0 dX2_byEdit_31 (by decide) ?_
      refine GoC.iload_n 3 dX2_byEdit_32 rfl ?_
      refine GC.iast dX2_byEdit_33 h (fun σ24 h => ?_)
      refine GoC.iconst 1 dX2_byEdit_34 (by decide) ?_
      refine GoC.istore [(0, G.rv x0), (1, .int x1), (2, .int x2), (3, .int x3), (4, .int 1)] dX2_byEdit_35 (by decide) rfl ?_
      exact ksX2_byEdit_37 _ ih _ _ _ _ _ _ _ h
set_option maxRecDepth 20000 in
theorem ksX2_byEdit_2 {l : Launch} {G : Gt} {n0 u0 : Nat} {Z : Int32 × Hp} (n : Nat) : ∀ (x0 : Nat) (x1 : Int32) (x2 : Int32) (x3 : Int32) (σ : Hp), kX2_byEdit_2 n x0 x1 x2 x3 σ = some Z → GoC l G RX2 "byEdit" cX2_byEdit 6 (some .int) 0 0 n0 u0 (some (.int Z.1)) Z.2 2 [(0, G.rv x0), (1, .int x1), (2, .int x2), (3, .int x3)] [] σ := by
  induction n with
  | zero => intro x0 x1 x2 x3 σ h; rw [kX2_byEdit_2] at h; cases h
  | succ n ih =>
    intro x0 x1 x2 x3 σ h
    rw [kX2_byEdit_2] at h
    refine GoC.iload_n 3 dX2_byEdit_2 rfl ?_
    refine GoC.iload_n 2 dX2_byEdit_3 rfl ?_
    refine GoC.icmp_gt 20 dX2_byEdit_4 (by decide) h (fun h => ?_) (fun h => ?_)
    · refine GoC.iconst 1 dX2_byEdit_20 (by decide) ?_
      refine GoC.istore_n [(0, G.rv x0), (1, .int x1), (2, .int x2), (3, .int 1)] dX2_byEdit_21 (by decide) rfl ?_
      exact ksX2_byEdit_22 _ _ _ _ _ _ h
    · refine GC.aload_n 0 dX2_byEdit_7 rfl ?_
      refine GC.getr 2 2 rfl (by decide) (by decide) fw_X2_18 (Or.inl rfl) dX2_byEdit_8 h (fun v25 h => ?_)
      refine GoC.iload_n 3 dX2_byEdit_11 rfl ?_
      refine GoC.iload_n 3 dX2_byEdit_12 rfl ?_
      refine GC.iast dX2_byEdit_13 h (fun σ26 h => ?_)
      refine GoC.iinc (w := 1) 3 [(0, G.rv x0), (1, .int x1), (2, .int x2), (3, .int (x3 + 1))] dX2_byEdit_14 rfl (by decide) (by decide) rfl ?_
      refine GoC.goto 2 dX2_byEdit_17 (by decide) ?_
      exact ih _ _ _ _ _ h
set_option maxRecDepth 20000 in
theorem ksX2_byEdit {l : Launch} {G : Gt} {n0 u0 : Nat} {σ : Hp} {Z : Int32 × Hp} (x0 : Nat) (x1 : Int32) (x2 : Int32) (h : kX2_byEdit σ x0 x1 x2 = some Z) : GoC l G RX2 "byEdit" cX2_byEdit 6 (some .int) 0 0 n0 u0 (some (.int Z.1)) Z.2 0 [(0, G.rv x0), (1, .int x1), (2, .int x2)] [] σ := by
  unfold kX2_byEdit at h
  refine GoC.iconst 0 dX2_byEdit_0 (by decide) ?_
  refine GoC.istore_n [(0, G.rv x0), (1, .int x1), (2, .int x2), (3, .int 0)] dX2_byEdit_1 (by decide) rfl ?_
  exact ksX2_byEdit_2 _ _ _ _ _ _ h
set_option maxRecDepth 20000 in
theorem ktX2_byEdit {l : Launch} {G : Gt} {σ : Hp} (x0 : Nat) (x1 : Int32) (x2 : Int32) : ∀ Z, kX2_byEdit σ x0 x1 x2 = some Z → MtC l G yX2_byEdit cX2_byEdit 6 (some .int) 0 0 [G.rv x0, .int x1, .int x2] σ (some (.int Z.1)) Z.2 := fun Z h => MtC.at (by decide +kernel) ⟨G.rv_cat _, rfl, rfl, trivial⟩ (Nat.le_of_ble_eq_true rfl) (ksX2_byEdit x0 x1 x2 h)
/-! X2_byPlace -/
def kX2_byPlace_31 (σ : Hp) (k4 : Nat → Int32 → Int32 → Option (Int32)) (x0 : Nat) (x2 : Int32) (y0 : Int32) (y1 : Int32) : Option (Int32) := k4 x0 (y0 + y1) (x2 + 1)
def kX2_byPlace_4 (σ : Hp)  : Nat → Nat → Int32 → Int32 → Option (Int32)
  | 0, _, _, _ => none
  | n + 1, x0, x1, x2 => if 6 ≤ x2 then some x1 else (gfr σ 12 200 x0).bind (fun v1 => (ald σ 1 v1 x2).bind (fun v2 => (gfr σ 12 201 x0).bind (fun v3 => (ald σ 1 v3 x2).bind (fun v4 => if v2 = v4 then kX2_byPlace_31 σ (kX2_byPlace_4 σ n) x0 x2 x1 0 else kX2_byPlace_31 σ (kX2_byPlace_4 σ n) x0 x2 x1 1))))
def kX2_byPlace (σ : Hp) (x0 : Nat) : Option (Int32) := kX2_byPlace_4 σ FU x0 0 0
set_option maxRecDepth 20000 in
theorem ksX2_byPlace_31 {l : Launch} {G : Gt} {n0 u0 : Nat} {σ : Hp} {Z : Int32} (k4 : Nat → Int32 → Int32 → Option (Int32)) (h4 : ∀ (x0 : Nat) (x1 : Int32) (x2 : Int32), k4 x0 x1 x2 = some Z → GoC l G RX2 "byPlace" cX2_byPlace 3 (some .int) 0 0 n0 u0 (some (.int Z)) σ 4 [(0, G.rv x0), (1, .int x1), (2, .int x2)] [] σ) (x0 : Nat) (x2 : Int32) (y0 : Int32) (y1 : Int32) (h : kX2_byPlace_31 σ k4 x0 x2 y0 y1 = some Z) : GoC l G RX2 "byPlace" cX2_byPlace 3 (some .int) 0 0 n0 u0 (some (.int Z)) σ 31 [(0, G.rv x0), (2, .int x2)] [.int y1, .int y0] σ := by
  unfold kX2_byPlace_31 at h
  refine GoC.iadd dX2_byPlace_31 ?_
  refine GoC.istore_n [(0, G.rv x0), (1, .int (y0 + y1)), (2, .int x2)] dX2_byPlace_32 (by decide) rfl ?_
  refine GoC.iinc (w := 1) 2 [(0, G.rv x0), (1, .int (y0 + y1)), (2, .int (x2 + 1))] dX2_byPlace_33 rfl (by decide) (by decide) rfl ?_
  refine GoC.goto 4 dX2_byPlace_36 (by decide) ?_
  exact h4 _ _ _ h
set_option maxRecDepth 20000 in
theorem ksX2_byPlace_4 {l : Launch} {G : Gt} {n0 u0 : Nat} {σ : Hp} {Z : Int32} (n : Nat) : ∀ (x0 : Nat) (x1 : Int32) (x2 : Int32), kX2_byPlace_4 σ n x0 x1 x2 = some Z → GoC l G RX2 "byPlace" cX2_byPlace 3 (some .int) 0 0 n0 u0 (some (.int Z)) σ 4 [(0, G.rv x0), (1, .int x1), (2, .int x2)] [] σ := by
  induction n with
  | zero => intro x0 x1 x2 h; rw [kX2_byPlace_4] at h; cases h
  | succ n ih =>
    intro x0 x1 x2 h
    rw [kX2_byPlace_4] at h
    refine GoC.iload_n 2 dX2_byPlace_4 rfl ?_
    refine GoC.bipush 6 dX2_byPlace_5 (by decide) ?_
    refine GoC.icmp_ge 39 dX2_byPlace_7 (by decide) h (fun h => ?_) (fun h => ?_)
    · refine GoC.iload_n 1 dX2_byPlace_39 rfl ?_
      cases h
      exact GoC.iret dX2_byPlace_40 rfl
    · refine GoC.iload_n 1 dX2_byPlace_10 rfl ?_
      refine GC.aload_n 0 dX2_byPlace_11 rfl ?_
      refine GC.getr 2 0 rfl (by decide) (by decide) fw_X2_9 (Or.inl rfl) dX2_byPlace_12 h (fun v1 h => ?_)
      refine GoC.iload_n 2 dX2_byPlace_15 rfl ?_
      refine GC.iald dX2_byPlace_16 h (fun v2 h => ?_)
      refine GC.aload_n 0 dX2_byPlace_17 rfl ?_
      refine GC.getr 2 1 rfl (by decide) (by decide) fw_X2_15 (Or.inl rfl) dX2_byPlace_18 h (fun v3 h => ?_)
      refine GoC.iload_n 2 dX2_byPlace_21 rfl ?_
      refine GC.iald dX2_byPlace_22 h (fun v4 h => ?_)
      refine GoC.icmp_ne 30 dX2_byPlace_23 (by decide) h (fun h => ?_) (fun h => ?_)
      · refine GoC.iconst 1 dX2_byPlace_30 (by decide) ?_
        refine GoC.sub [0, 2] rfl ?_
        exact ksX2_byPlace_31 _ ih _ _ _ _ h
      · refine GoC.iconst 0 dX2_byPlace_26 (by decide) ?_
        refine GoC.goto 31 dX2_byPlace_27 (by decide) ?_
        refine GoC.sub [0, 2] rfl ?_
        exact ksX2_byPlace_31 _ ih _ _ _ _ h
set_option maxRecDepth 20000 in
theorem ksX2_byPlace {l : Launch} {G : Gt} {n0 u0 : Nat} {σ : Hp} {Z : Int32} (x0 : Nat) (h : kX2_byPlace σ x0 = some Z) : GoC l G RX2 "byPlace" cX2_byPlace 3 (some .int) 0 0 n0 u0 (some (.int Z)) σ 0 [(0, G.rv x0)] [] σ := by
  unfold kX2_byPlace at h
  refine GoC.iconst 0 dX2_byPlace_0 (by decide) ?_
  refine GoC.istore_n [(0, G.rv x0), (1, .int 0)] dX2_byPlace_1 (by decide) rfl ?_
  refine GoC.iconst 0 dX2_byPlace_2 (by decide) ?_
  refine GoC.istore_n [(0, G.rv x0), (1, .int 0), (2, .int 0)] dX2_byPlace_3 (by decide) rfl ?_
  exact ksX2_byPlace_4 _ _ _ _ h
set_option maxRecDepth 20000 in
theorem ktX2_byPlace {l : Launch} {G : Gt} {σ : Hp} (x0 : Nat) : ∀ Z, kX2_byPlace σ x0 = some Z → MtC l G yX2_byPlace cX2_byPlace 3 (some .int) 0 0 [G.rv x0] σ (some (.int Z)) σ := fun Z h => MtC.at (by decide +kernel) ⟨G.rv_cat _, trivial⟩ (Nat.le_of_ble_eq_true rfl) (ksX2_byPlace x0 h)
/-! X2_bySum -/
def kX2_bySum_55 (σ : Hp) (k4 : Nat → Int32 → Int32 → Option (Int32)) (x0 : Nat) (x2 : Int32) (y0 : Int32) (y1 : Int32) : Option (Int32) := k4 x0 (y0 + y1) (x2 + 1)
def kX2_bySum_4 (σ : Hp)  : Nat → Nat → Int32 → Int32 → Option (Int32)
  | 0, _, _, _ => none
  | n + 1, x0, x1, x2 => if 6 ≤ x2 then some x1 else (gfr σ 12 200 x0).bind (fun v1 => (ald σ 1 v1 x2).bind (fun v2 => (gfr σ 12 201 x0).bind (fun v3 => (ald σ 1 v3 x2).bind (fun v4 => if v4 ≤ v2 then (gfr σ 12 200 x0).bind (fun v5 => (ald σ 1 v5 x2).bind (fun v6 => (gfr σ 12 201 x0).bind (fun v7 => (ald σ 1 v7 x2).bind (fun v8 => kX2_bySum_55 σ (kX2_bySum_4 σ n) x0 x2 x1 (v6 - v8))))) else (gfr σ 12 201 x0).bind (fun v9 => (ald σ 1 v9 x2).bind (fun v10 => (gfr σ 12 200 x0).bind (fun v11 => (ald σ 1 v11 x2).bind (fun v12 => kX2_bySum_55 σ (kX2_bySum_4 σ n) x0 x2 x1 (v10 - v12)))))))))
def kX2_bySum (σ : Hp) (x0 : Nat) : Option (Int32) := kX2_bySum_4 σ FU x0 0 0
set_option maxRecDepth 20000 in
theorem ksX2_bySum_55 {l : Launch} {G : Gt} {n0 u0 : Nat} {σ : Hp} {Z : Int32} (k4 : Nat → Int32 → Int32 → Option (Int32)) (h4 : ∀ (x0 : Nat) (x1 : Int32) (x2 : Int32), k4 x0 x1 x2 = some Z → GoC l G RX2 "bySum" cX2_bySum 3 (some .int) 0 0 n0 u0 (some (.int Z)) σ 4 [(0, G.rv x0), (1, .int x1), (2, .int x2)] [] σ) (x0 : Nat) (x2 : Int32) (y0 : Int32) (y1 : Int32) (h : kX2_bySum_55 σ k4 x0 x2 y0 y1 = some Z) : GoC l G RX2 "bySum" cX2_bySum 3 (some .int) 0 0 n0 u0 (some (.int Z)) σ 55 [(0, G.rv x0), (2, .int x2)] [.int y1, .int y0] σ := by
  unfold kX2_bySum_55 at h
  refine GoC.iadd dX2_bySum_55 ?_
  refine GoC.istore_n [(0, G.rv x0), (1, .int (y0 + y1)), (2, .int x2)] dX2_bySum_56 (by decide) rfl ?_
  refine GoC.iinc (w := 1) 2 [(0, G.rv x0), (1, .int (y0 + y1)), (2, .int (x2 + 1))] dX2_bySum_57 rfl (by decide) (by decide) rfl ?_
  refine GoC.goto 4 dX2_bySum_60 (by decide) ?_
  exact h4 _ _ _ h
set_option maxRecDepth 20000 in
theorem ksX2_bySum_4 {l : Launch} {G : Gt} {n0 u0 : Nat} {σ : Hp} {Z : Int32} (n : Nat) : ∀ (x0 : Nat) (x1 : Int32) (x2 : Int32), kX2_bySum_4 σ n x0 x1 x2 = some Z → GoC l G RX2 "bySum" cX2_bySum 3 (some .int) 0 0 n0 u0 (some (.int Z)) σ 4 [(0, G.rv x0), (1, .int x1), (2, .int x2)] [] σ := by
  induction n with
  | zero => intro x0 x1 x2 h; rw [kX2_bySum_4] at h; cases h
  | succ n ih =>
    intro x0 x1 x2 h
    rw [kX2_bySum_4] at h
    refine GoC.iload_n 2 dX2_bySum_4 rfl ?_
    refine GoC.bipush 6 dX2_bySum_5 (by decide) ?_
    refine GoC.icmp_ge 63 dX2_bySum_7 (by decide) h (fun h => ?_) (fun h => ?_)
    · refine GoC.iload_n 1 dX2_bySum_63 rfl ?_
      cases h
      exact GoC.iret dX2_bySum_64 rfl
    · refine GoC.iload_n 1 dX2_bySum_10 rfl ?_
      refine GC.aload_n 0 dX2_bySum_11 rfl ?_
      refine GC.getr 2 0 rfl (by decide) (by decide) fw_X2_9 (Or.inl rfl) dX2_bySum_12 h (fun v1 h => ?_)
      refine GoC.iload_n 2 dX2_bySum_15 rfl ?_
      refine GC.iald dX2_bySum_16 h (fun v2 h => ?_)
      refine GC.aload_n 0 dX2_bySum_17 rfl ?_
      refine GC.getr 2 1 rfl (by decide) (by decide) fw_X2_15 (Or.inl rfl) dX2_bySum_18 h (fun v3 h => ?_)
      refine GoC.iload_n 2 dX2_bySum_21 rfl ?_
      refine GC.iald dX2_bySum_22 h (fun v4 h => ?_)
      refine GoC.icmp_ge 42 dX2_bySum_23 (by decide) h (fun h => ?_) (fun h => ?_)
      · refine GC.aload_n 0 dX2_bySum_42 rfl ?_
        refine GC.getr 2 0 rfl (by decide) (by decide) fw_X2_9 (Or.inl rfl) dX2_bySum_43 h (fun v5 h => ?_)
        refine GoC.iload_n 2 dX2_bySum_46 rfl ?_
        refine GC.iald dX2_bySum_47 h (fun v6 h => ?_)
        refine GC.aload_n 0 dX2_bySum_48 rfl ?_
        refine GC.getr 2 1 rfl (by decide) (by decide) fw_X2_15 (Or.inl rfl) dX2_bySum_49 h (fun v7 h => ?_)
        refine GoC.iload_n 2 dX2_bySum_52 rfl ?_
        refine GC.iald dX2_bySum_53 h (fun v8 h => ?_)
        refine GoC.isub dX2_bySum_54 ?_
        refine GoC.sub [0, 2] rfl ?_
        exact ksX2_bySum_55 _ ih _ _ _ _ h
      · refine GC.aload_n 0 dX2_bySum_26 rfl ?_
        refine GC.getr 2 1 rfl (by decide) (by decide) fw_X2_15 (Or.inl rfl) dX2_bySum_27 h (fun v9 h => ?_)
        refine GoC.iload_n 2 dX2_bySum_30 rfl ?_
        refine GC.iald dX2_bySum_31 h (fun v10 h => ?_)
        refine GC.aload_n 0 dX2_bySum_32 rfl ?_
        refine GC.getr 2 0 rfl (by decide) (by decide) fw_X2_9 (Or.inl rfl) dX2_bySum_33 h (fun v11 h => ?_)
        refine GoC.iload_n 2 dX2_bySum_36 rfl ?_
        refine GC.iald dX2_bySum_37 h (fun v12 h => ?_)
        refine GoC.isub dX2_bySum_38 ?_
        refine GoC.goto 55 dX2_bySum_39 (by decide) ?_
        refine GoC.sub [0, 2] rfl ?_
        exact ksX2_bySum_55 _ ih _ _ _ _ h
set_option maxRecDepth 20000 in
theorem ksX2_bySum {l : Launch} {G : Gt} {n0 u0 : Nat} {σ : Hp} {Z : Int32} (x0 : Nat) (h : kX2_bySum σ x0 = some Z) : GoC l G RX2 "bySum" cX2_bySum 3 (some .int) 0 0 n0 u0 (some (.int Z)) σ 0 [(0, G.rv x0)] [] σ := by
  unfold kX2_bySum at h
  refine GoC.iconst 0 dX2_bySum_0 (by decide) ?_
  refine GoC.istore_n [(0, G.rv x0), (1, .int 0)] dX2_bySum_1 (by decide) rfl ?_
  refine GoC.iconst 0 dX2_bySum_2 (by decide) ?_
  refine GoC.istore_n [(0, G.rv x0), (1, .int 0), (2, .int 0)] dX2_bySum_3 (by decide) rfl ?_
  exact ksX2_bySum_4 _ _ _ _ h
set_option maxRecDepth 20000 in
theorem ktX2_bySum {l : Launch} {G : Gt} {σ : Hp} (x0 : Nat) : ∀ Z, kX2_bySum σ x0 = some Z → MtC l G yX2_bySum cX2_bySum 3 (some .int) 0 0 [G.rv x0] σ (some (.int Z)) σ := fun Z h => MtC.at (by decide +kernel) ⟨G.rv_cat _, trivial⟩ (Nat.le_of_ble_eq_true rfl) (ksX2_bySum x0 h)
/-! X2_byHead -/
def kX2_byHead_2 (σ : Hp)  : Nat → Nat → Int32 → Option (Int32)
  | 0, _, _ => none
  | n + 1, x0, x1 => if 6 ≤ x1 then some 0 else (gfr σ 12 200 x0).bind (fun v1 => (ald σ 1 v1 x1).bind (fun v2 => (gfr σ 12 201 x0).bind (fun v3 => (ald σ 1 v3 x1).bind (fun v4 => if v2 = v4 then kX2_byHead_2 σ n x0 (x1 + 1) else some (7 - x1)))))
def kX2_byHead (σ : Hp) (x0 : Nat) : Option (Int32) := kX2_byHead_2 σ FU x0 0
set_option maxRecDepth 20000 in
theorem ksX2_byHead_2 {l : Launch} {G : Gt} {n0 u0 : Nat} {σ : Hp} {Z : Int32} (n : Nat) : ∀ (x0 : Nat) (x1 : Int32), kX2_byHead_2 σ n x0 x1 = some Z → GoC l G RX2 "byHead" cX2_byHead 2 (some .int) 0 0 n0 u0 (some (.int Z)) σ 2 [(0, G.rv x0), (1, .int x1)] [] σ := by
  induction n with
  | zero => intro x0 x1 h; rw [kX2_byHead_2] at h; cases h
  | succ n ih =>
    intro x0 x1 h
    rw [kX2_byHead_2] at h
    refine GoC.iload_n 1 dX2_byHead_2 rfl ?_
    refine GoC.bipush 6 dX2_byHead_3 (by decide) ?_
    refine GoC.icmp_ge 34 dX2_byHead_5 (by decide) h (fun h => ?_) (fun h => ?_)
    · refine GoC.iconst 0 dX2_byHead_34 (by decide) ?_
      cases h
      exact GoC.iret dX2_byHead_35 rfl
    · refine GC.aload_n 0 dX2_byHead_8 rfl ?_
      refine GC.getr 2 0 rfl (by decide) (by decide) fw_X2_9 (Or.inl rfl) dX2_byHead_9 h (fun v1 h => ?_)
      refine GoC.iload_n 1 dX2_byHead_12 rfl ?_
      refine GC.iald dX2_byHead_13 h (fun v2 h => ?_)
      refine GC.aload_n 0 dX2_byHead_14 rfl ?_
      refine GC.getr 2 1 rfl (by decide) (by decide) fw_X2_15 (Or.inl rfl) dX2_byHead_15 h (fun v3 h => ?_)
      refine GoC.iload_n 1 dX2_byHead_18 rfl ?_
      refine GC.iald dX2_byHead_19 h (fun v4 h => ?_)
      refine GoC.icmp_eq 28 dX2_byHead_20 (by decide) h (fun h => ?_) (fun h => ?_)
      · refine GoC.iinc (w := 1) 1 [(0, G.rv x0), (1, .int (x1 + 1))] dX2_byHead_28 rfl (by decide) (by decide) rfl ?_
        refine GoC.goto 2 dX2_byHead_31 (by decide) ?_
        exact ih _ _ h
      · refine GoC.bipush 7 dX2_byHead_23 (by decide) ?_
        refine GoC.iload_n 1 dX2_byHead_25 rfl ?_
        refine GoC.isub dX2_byHead_26 ?_
        cases h
        exact GoC.iret dX2_byHead_27 rfl
set_option maxRecDepth 20000 in
theorem ksX2_byHead {l : Launch} {G : Gt} {n0 u0 : Nat} {σ : Hp} {Z : Int32} (x0 : Nat) (h : kX2_byHead σ x0 = some Z) : GoC l G RX2 "byHead" cX2_byHead 2 (some .int) 0 0 n0 u0 (some (.int Z)) σ 0 [(0, G.rv x0)] [] σ := by
  unfold kX2_byHead at h
  refine GoC.iconst 0 dX2_byHead_0 (by decide) ?_
  refine GoC.istore_n [(0, G.rv x0), (1, .int 0)] dX2_byHead_1 (by decide) rfl ?_
  exact ksX2_byHead_2 _ _ _ h
set_option maxRecDepth 20000 in
theorem ktX2_byHead {l : Launch} {G : Gt} {σ : Hp} (x0 : Nat) : ∀ Z, kX2_byHead σ x0 = some Z → MtC l G yX2_byHead cX2_byHead 2 (some .int) 0 0 [G.rv x0] σ (some (.int Z)) σ := fun Z h => MtC.at (by decide +kernel) ⟨G.rv_cat _, trivial⟩ (Nat.le_of_ble_eq_true rfl) (ksX2_byHead x0 h)
