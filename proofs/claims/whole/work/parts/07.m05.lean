/-! isBefore -/
def r_isBefore_31 (S : MS)  (y0 : Int32) (y1 : Int32) : Option (Int32) := if y0 = y1 then zb 1 else zb 0
def r_isBefore (S : MS) (x1 : Int32) (x2 : Int32) (x3 : Int32) : Option (Int32) := (rd S 17 x1).bind (fun v1 => (rd S 17 x2).bind (fun v2 => if (v1 - v2) = 0 then if x2 ≤ x1 then zb 0 else zb 1 else if (v1 - v2) ≤ 0 then r_isBefore_31 S x3 0 else r_isBefore_31 S x3 1))
set_option maxRecDepth 20000 in
theorem rs_isBefore_31 {l : Launch} {κ : KMt} {S : MS} {Z : Int32} (y0 : Int32) (y1 : Int32) (h : r_isBefore_31 S y0 y1 = some Z) : Go l (EM κ) RX12 cX12_isBefore 5 (some .boolean) 0 0 0 0 (some (.int Z)) S 31 [] [.int y1, .int y0] S := by
  unfold r_isBefore_31 at h
  refine Go.icmp_ne 38 dX12_isBefore_31 (by decide) h (fun h => ?_) (fun h => ?_)
  · refine Go.iconst 0 dX12_isBefore_38 (by decide) ?_
    refine Go.goto 52 dX12_isBefore_39 (by decide) ?_
    exact Go.zret dX12_isBefore_52 rfl h
  · refine Go.iconst 1 dX12_isBefore_34 (by decide) ?_
    refine Go.goto 52 dX12_isBefore_35 (by decide) ?_
    exact Go.zret dX12_isBefore_52 rfl h
set_option maxRecDepth 20000 in
theorem rs_isBefore {l : Launch} {κ : KMt} {S : MS} {Z : Int32} (x1 : Int32) (x2 : Int32) (x3 : Int32) (h : r_isBefore S x1 x2 x3 = some Z) : Go l (EM κ) RX12 cX12_isBefore 5 (some .boolean) 0 0 0 0 (some (.int Z)) S 0 [(0, .ref κ.o), (1, .int x1), (2, .int x2), (3, .int x3)] [] S := by
  unfold r_isBefore at h
  refine Go.aload_n 0 dX12_isBefore_0 rfl ?_
  refine GM.geta 24 17 (by decide) rfl fl_measured rfl dX12_isBefore_1 ?_
  refine Go.iload_n 1 dX12_isBefore_4 rfl ?_
  refine GM.iald 17 (by decide) rfl dX12_isBefore_5 h (fun v1 h => ?_)
  refine Go.aload_n 0 dX12_isBefore_6 rfl ?_
  refine GM.geta 24 17 (by decide) rfl fl_measured rfl dX12_isBefore_7 ?_
  refine Go.iload_n 2 dX12_isBefore_10 rfl ?_
  refine GM.iald 17 (by decide) rfl dX12_isBefore_11 h (fun v2 h => ?_)
  refine Go.isub dX12_isBefore_12 ?_
  refine Go.istore [(0, .ref κ.o), (1, .int x1), (2, .int x2), (3, .int x3), (4, .int (v1 - v2))] dX12_isBefore_13 (by decide) rfl ?_
  refine Go.iload 4 dX12_isBefore_15 rfl ?_
  refine Go.if_eq 42 dX12_isBefore_17 (by decide) h (fun h => ?_) (fun h => ?_)
  · refine Go.iload_n 1 dX12_isBefore_42 rfl ?_
    refine Go.iload_n 2 dX12_isBefore_43 rfl ?_
    refine Go.icmp_ge 51 dX12_isBefore_44 (by decide) h (fun h => ?_) (fun h => ?_)
    · refine Go.iconst 0 dX12_isBefore_51 (by decide) ?_
      exact Go.zret dX12_isBefore_52 rfl h
    · refine Go.iconst 1 dX12_isBefore_47 (by decide) ?_
      refine Go.goto 52 dX12_isBefore_48 (by decide) ?_
      exact Go.zret dX12_isBefore_52 rfl h
  · refine Go.iload_n 3 dX12_isBefore_20 rfl ?_
    refine Go.iload 4 dX12_isBefore_21 rfl ?_
    refine Go.if_le 30 dX12_isBefore_23 (by decide) h (fun h => ?_) (fun h => ?_)
    · refine Go.iconst 0 dX12_isBefore_30 (by decide) ?_
      refine Go.sub [] rfl ?_
      exact rs_isBefore_31 _ _ h
    · refine Go.iconst 1 dX12_isBefore_26 (by decide) ?_
      refine Go.goto 31 dX12_isBefore_27 (by decide) ?_
      refine Go.sub [] rfl ?_
      exact rs_isBefore_31 _ _ h
set_option maxRecDepth 20000 in
theorem rt_isBefore {l : Launch} {κ : KMt} {S : MS} (x1 : Int32) (x2 : Int32) (x3 : Int32) : ∀ Z, r_isBefore S x1 x2 x3 = some Z → MtM l κ yX12_isBefore cX12_isBefore 5 (some .boolean) 0 0 [.ref κ.o, .int x1, .int x2, .int x3] S (some (.int Z)) S := fun Z h => MtM.of (by decide +kernel) rfl (Nat.le_of_ble_eq_true rfl) ⟨rfl, rfl, rfl, rfl, trivial⟩ (rs_isBefore x1 x2 x3 h)
/-! find -/
def r_find_46  (x1 : Int32) (x3 : Int32) (S : MS) : Option (MS) := (wr S 18 x3 x1).bind (fun S1 => some (pf S1 26 ((S1.2 26) + 1)))
def r_find_5  : Nat → Int32 → Int32 → Int32 → MS → Option (MS)
  | 0, _, _, _, _ => none
  | n + 1, x1, x2, x3, S => if x3 ≤ 0 then r_find_46 x1 x3 S else (rd S 18 (x3 - 1)).bind (fun v2 => (r_isBefore S x1 v2 x2).bind (fun v3 => if v3 = 0 then r_find_46 x1 x3 S else (rd S 18 (x3 - 1)).bind (fun v4 => (wr S 18 x3 v4).bind (fun S5 => r_find_5 n x1 x2 (x3 + (-1)) S5))))
def r_find (S : MS) (x1 : Int32) (x2 : Int32) : Option (MS) := r_find_5 FU x1 x2 (S.2 26) S
set_option maxRecDepth 20000 in
theorem rs_find_46 {l : Launch} {κ : KMt} {Z : MS} (x1 : Int32) (x3 : Int32) (S : MS) (h : r_find_46 x1 x3 S = some Z) : Go l (EM κ) RX12 cX12_find 4 none 1 24 0 0 none Z 46 [(0, .ref κ.o), (1, .int x1), (3, .int x3)] [] S := by
  unfold r_find_46 at h
  refine Go.aload_n 0 dX12_find_46 rfl ?_
  refine GM.geta 25 18 (by decide) rfl fl_found rfl dX12_find_47 ?_
  refine Go.iload_n 2 dX12_find_50 rfl ?_
  refine Go.iload_n 1 dX12_find_51 rfl ?_
  refine GM.iast 18 (by decide) rfl dX12_find_52 h (fun S1 h => ?_)
  refine Go.aload_n 0 dX12_find_53 rfl ?_
  refine Go.dup dX12_find_54 rfl ?_
  refine GM.geti 26 (by decide) rfl fl_founds rfl dX12_find_55 ?_
  refine Go.iconst 1 dX12_find_58 (by decide) ?_
  refine Go.iadd dX12_find_59 ?_
  refine GM.puti 26 (by decide) rfl fl_founds rfl rfl rfl rfl dX12_find_60 ?_
  cases h
  exact Go.vret dX12_find_63 rfl
set_option maxRecDepth 20000 in
theorem rs_find_5 {l : Launch} {κ : KMt} {Z : MS} (n : Nat) : ∀ (x1 : Int32) (x2 : Int32) (x3 : Int32) (S : MS), r_find_5 n x1 x2 x3 S = some Z → Go l (EM κ) RX12 cX12_find 4 none 1 24 0 0 none Z 5 [(0, .ref κ.o), (1, .int x1), (2, .int x2), (3, .int x3)] [] S := by
  induction n with
  | zero => intro x1 x2 x3 S h; rw [r_find_5] at h; cases h
  | succ n ih =>
    intro x1 x2 x3 S h
    rw [r_find_5] at h
    refine Go.iload_n 3 dX12_find_5 rfl ?_
    refine Go.if_le 46 dX12_find_6 (by decide) h (fun h => ?_) (fun h => ?_)
    · refine Go.sub [0, 1, 3] rfl ?_
      exact rs_find_46 _ _ _ h
    · refine Go.aload_n 0 dX12_find_9 rfl ?_
      refine Go.iload_n 1 dX12_find_10 rfl ?_
      refine Go.aload_n 0 dX12_find_11 rfl ?_
      refine GM.geta 25 18 (by decide) rfl fl_found rfl dX12_find_12 ?_
      refine Go.iload_n 3 dX12_find_15 rfl ?_
      refine Go.iconst 1 dX12_find_16 (by decide) ?_
      refine Go.isub dX12_find_17 ?_
      refine GM.iald 18 (by decide) rfl dX12_find_18 h (fun v2 h => ?_)
      refine Go.iload_n 2 dX12_find_19 rfl ?_
      refine GM.callvr (rest := []) [.int x1, .int v2, .int x2] dX12_find_20 ck_isBefore ci_isBefore (rt_isBefore _ _ _) rfl rfl (Nat.le_of_ble_eq_true rfl) (Nat.le_of_ble_eq_true rfl) (Nat.le_of_ble_eq_true rfl) h (fun v3 h => ?_)
      refine Go.if_eq 46 dX12_find_23 (by decide) h (fun h => ?_) (fun h => ?_)
      · refine Go.sub [0, 1, 3] rfl ?_
        exact rs_find_46 _ _ _ h
      · refine Go.aload_n 0 dX12_find_26 rfl ?_
        refine GM.geta 25 18 (by decide) rfl fl_found rfl dX12_find_27 ?_
        refine Go.iload_n 3 dX12_find_30 rfl ?_
        refine Go.aload_n 0 dX12_find_31 rfl ?_
        refine GM.geta 25 18 (by decide) rfl fl_found rfl dX12_find_32 ?_
        refine Go.iload_n 3 dX12_find_35 rfl ?_
        refine Go.iconst 1 dX12_find_36 (by decide) ?_
        refine Go.isub dX12_find_37 ?_
        refine GM.iald 18 (by decide) rfl dX12_find_38 h (fun v4 h => ?_)
        refine GM.iast 18 (by decide) rfl dX12_find_39 h (fun S5 h => ?_)
        refine Go.iinc (w := (-1)) 3 [(0, .ref κ.o), (1, .int x1), (2, .int x2), (3, .int (x3 + (-1)))] dX12_find_40 rfl (by decide) (by decide) rfl ?_
        refine Go.goto 5 dX12_find_43 (by decide) ?_
        exact ih _ _ _ _ h
set_option maxRecDepth 20000 in
theorem rs_find {l : Launch} {κ : KMt} {S : MS} {Z : MS} (x1 : Int32) (x2 : Int32) (h : r_find S x1 x2 = some Z) : Go l (EM κ) RX12 cX12_find 4 none 1 24 0 0 none Z 0 [(0, .ref κ.o), (1, .int x1), (2, .int x2)] [] S := by
  unfold r_find at h
  refine Go.aload_n 0 dX12_find_0 rfl ?_
  refine GM.geti 26 (by decide) rfl fl_founds rfl dX12_find_1 ?_
  refine Go.istore_n [(0, .ref κ.o), (1, .int x1), (2, .int x2), (3, .int (S.2 26))] dX12_find_4 (by decide) rfl ?_
  exact rs_find_5 _ _ _ _ _ h
set_option maxRecDepth 20000 in
theorem rt_find {l : Launch} {κ : KMt} {S : MS} (x1 : Int32) (x2 : Int32) : ∀ Z, r_find S x1 x2 = some Z → MtM l κ yX12_find cX12_find 4 none 1 24 [.ref κ.o, .int x1, .int x2] S none Z := fun Z h => MtM.of (by decide +kernel) rfl (Nat.le_of_ble_eq_true rfl) ⟨rfl, rfl, rfl, trivial⟩ (rs_find x1 x2 h)
/-! centreAbove -/
def r_centreAbove (S : MS) (x1 : Int32) : Option (Int32) := (rd S 4 (x1 - 1)).bind (fun v1 => (rd S 5 (x1 - 1)).bind (fun v2 => (r_entryOf S v1 (v2 - 1) 0).bind (fun v3 => some v3)))
set_option maxRecDepth 20000 in
theorem rs_centreAbove {l : Launch} {κ : KMt} {S : MS} {Z : Int32} (x1 : Int32) (h : r_centreAbove S x1 = some Z) : Go l (EM κ) RX12 cX12_centreAbove 2 (some .int) 2 45 0 0 (some (.int Z)) S 0 [(0, .ref κ.o), (1, .int x1)] [] S := by
  unfold r_centreAbove at h
  refine Go.aload_n 0 dX12_centreAbove_0 rfl ?_
  refine Go.aload_n 0 dX12_centreAbove_1 rfl ?_
  refine GM.geta 4 4 (by decide) rfl fl_pathPage rfl dX12_centreAbove_2 ?_
  refine Go.iload_n 1 dX12_centreAbove_5 rfl ?_
  refine Go.iconst 1 dX12_centreAbove_6 (by decide) ?_
  refine Go.isub dX12_centreAbove_7 ?_
  refine GM.iald 4 (by decide) rfl dX12_centreAbove_8 h (fun v1 h => ?_)
  refine Go.aload_n 0 dX12_centreAbove_9 rfl ?_
  refine GM.geta 5 5 (by decide) rfl fl_pathEntry rfl dX12_centreAbove_10 ?_
  refine Go.iload_n 1 dX12_centreAbove_13 rfl ?_
  refine Go.iconst 1 dX12_centreAbove_14 (by decide) ?_
  refine Go.isub dX12_centreAbove_15 ?_
  refine GM.iald 5 (by decide) rfl dX12_centreAbove_16 h (fun v2 h => ?_)
  refine Go.iconst 1 dX12_centreAbove_17 (by decide) ?_
  refine Go.isub dX12_centreAbove_18 ?_
  refine Go.iconst 0 dX12_centreAbove_19 (by decide) ?_
  refine GM.callvr (rest := []) [.int v1, .int (v2 - 1), .int 0] dX12_centreAbove_20 ck_entryOf ci_entryOf (rt_entryOf _ _ _) rfl rfl (Nat.le_of_ble_eq_true rfl) (Nat.le_of_ble_eq_true rfl) (Nat.le_of_ble_eq_true rfl) h (fun v3 h => ?_)
  cases h
  exact Go.iret dX12_centreAbove_23 rfl
set_option maxRecDepth 20000 in
theorem rt_centreAbove {l : Launch} {κ : KMt} {S : MS} (x1 : Int32) : ∀ Z, r_centreAbove S x1 = some Z → MtM l κ yX12_centreAbove cX12_centreAbove 2 (some .int) 2 45 [.ref κ.o, .int x1] S (some (.int Z)) S := fun Z h => MtM.of (by decide +kernel) rfl (Nat.le_of_ble_eq_true rfl) ⟨rfl, rfl, trivial⟩ (rs_centreAbove x1 h)
/-! findWithin -/
def r_findWithin_137 (k26 : Int32 → Int32 → MS → Option (MS)) (x1 : Int32) (x2 : Int32) (x3 : Int32) (x4 : Int32) (x5 : Int32) (x6 : Int32) (S : MS) : Option (MS) := bd2 (r_wayTo S x6) (fun v1 S2 => if v1 ≤ (x1 + x5) then (r_isLeaf S2 x3).bind (fun v3 => if v3 = 0 then (r_entryOf S2 x3 x4 3).bind (fun v4 => (wr S2 4 (x2 + 1) v4).bind (fun S5 => (wr S5 5 (x2 + 1) 0).bind (fun S6 => k26 x1 (x2 + 1) (pf S6 29 ((S6.2 29) + 1))))) else (r_find S2 x6 0).bind (fun S7 => k26 x1 x2 S7)) else k26 x1 x2 S2)
def r_findWithin_26  : Nat → Int32 → Int32 → MS → Option (MS)
  | 0, _, _, _ => none
  | n + 1, x1, x2, S => if x2 < 0 then some (pf S 32 (S.2 26)) else (rd S 4 x2).bind (fun v8 => (rd S 5 x2).bind (fun v9 => (r_countOf S v8).bind (fun v10 => if v9 = v10 then r_findWithin_26 n x1 (x2 + (-1)) S else (rd S 5 x2).bind (fun v11 => (wr S 5 x2 (v11 + 1)).bind (fun S12 => (r_entryOf S12 v8 v9 1).bind (fun v13 => (r_entryOf S12 v8 v9 0).bind (fun v14 => if x2 ≤ 0 then r_findWithin_137 (r_findWithin_26 n) x1 x2 v8 v9 v13 v14 S12 else (r_centreAbove S12 x2).bind (fun v15 => (rd S12 17 v15).bind (fun v16 => (r_entryOf S12 v8 v9 2).bind (fun v17 => (r_size S12 (v16 - v17)).bind (fun v18 => if v18 ≤ (x1 + v13) then r_findWithin_137 (r_findWithin_26 n) x1 x2 v8 v9 v13 v14 S12 else r_findWithin_26 n x1 x2 (pf S12 28 ((S12.2 28) + 1)))))))))))))
def r_findWithin (S : MS) (x1 : Int32) : Option (MS) := (rd S 0 2).bind (fun v19 => (wr S 4 0 v19).bind (fun S20 => (wr S20 5 0 0).bind (fun S21 => r_findWithin_26 FU x1 0 (pf S21 29 1))))
set_option maxRecDepth 20000 in
theorem rs_findWithin_137 {l : Launch} {κ : KMt} {Z : MS} (k26 : Int32 → Int32 → MS → Option (MS)) (h26 : ∀ (x1 : Int32) (x2 : Int32) (S : MS), k26 x1 x2 S = some Z → Go l (EM κ) RX12 cX12_findWithin 7 none 7 164 0 0 none Z 26 [(0, .ref κ.o), (1, .int x1), (2, .int x2)] [] S) (x1 : Int32) (x2 : Int32) (x3 : Int32) (x4 : Int32) (x5 : Int32) (x6 : Int32) (S : MS) (h : r_findWithin_137 k26 x1 x2 x3 x4 x5 x6 S = some Z) : Go l (EM κ) RX12 cX12_findWithin 7 none 7 164 0 0 none Z 137 [(0, .ref κ.o), (1, .int x1), (2, .int x2), (3, .int x3), (4, .int x4), (5, .int x5), (6, .int x6)] [] S := by
  unfold r_findWithin_137 at h
  refine Go.aload_n 0 dX12_findWithin_137 rfl ?_
  refine Go.iload 6 dX12_findWithin_138 rfl ?_
  refine GM.callvw (rest := []) [.int x6] dX12_findWithin_140 ck_wayTo ci_wayTo (rt_wayTo _) rfl rfl (Nat.le_of_ble_eq_true rfl) (Nat.le_of_ble_eq_true rfl) (Nat.le_of_ble_eq_true rfl) h (fun v1 S2 h => ?_)
  refine Go.iload_n 1 dX12_findWithin_143 rfl ?_
  refine Go.iload 5 dX12_findWithin_144 rfl ?_
  refine Go.iadd dX12_findWithin_146 ?_
  refine Go.icmp_le 153 dX12_findWithin_147 (by decide) h (fun h => ?_) (fun h => ?_)
  · refine Go.aload_n 0 dX12_findWithin_153 rfl ?_
    refine Go.iload_n 3 dX12_findWithin_154 rfl ?_
    refine GM.callvr (rest := []) [.int x3] dX12_findWithin_155 ck_isLeaf ci_isLeaf (rt_isLeaf _) rfl rfl (Nat.le_of_ble_eq_true rfl) (Nat.le_of_ble_eq_true rfl) (Nat.le_of_ble_eq_true rfl) h (fun v3 h => ?_)
    refine Go.if_eq 171 dX12_findWithin_158 (by decide) h (fun h => ?_) (fun h => ?_)
    · refine Go.iinc (w := 1) 2 [(0, .ref κ.o), (1, .int x1), (2, .int (x2 + 1)), (3, .int x3), (4, .int x4), (5, .int x5), (6, .int x6)] dX12_findWithin_171 rfl (by decide) (by decide) rfl ?_
      refine Go.aload_n 0 dX12_findWithin_174 rfl ?_
      refine GM.geta 4 4 (by decide) rfl fl_pathPage rfl dX12_findWithin_175 ?_
      refine Go.iload_n 2 dX12_findWithin_178 rfl ?_
      refine Go.aload_n 0 dX12_findWithin_179 rfl ?_
      refine Go.iload_n 3 dX12_findWithin_180 rfl ?_
      refine Go.iload 4 dX12_findWithin_181 rfl ?_
      refine Go.iconst 3 dX12_findWithin_183 (by decide) ?_
      refine GM.callvr (rest := [.int (x2 + 1), .ref (κ.o + 1 + 4)]) [.int x3, .int x4, .int 3] dX12_findWithin_184 ck_entryOf ci_entryOf (rt_entryOf _ _ _) rfl rfl (Nat.le_of_ble_eq_true rfl) (Nat.le_of_ble_eq_true rfl) (Nat.le_of_ble_eq_true rfl) h (fun v4 h => ?_)
      refine GM.iast 4 (by decide) rfl dX12_findWithin_187 h (fun S5 h => ?_)
      refine Go.aload_n 0 dX12_findWithin_188 rfl ?_
      refine GM.geta 5 5 (by decide) rfl fl_pathEntry rfl dX12_findWithin_189 ?_
      refine Go.iload_n 2 dX12_findWithin_192 rfl ?_
      refine Go.iconst 0 dX12_findWithin_193 (by decide) ?_
      refine GM.iast 5 (by decide) rfl dX12_findWithin_194 h (fun S6 h => ?_)
      refine Go.aload_n 0 dX12_findWithin_195 rfl ?_
      refine Go.dup dX12_findWithin_196 rfl ?_
      refine GM.geti 29 (by decide) rfl fl_looked rfl dX12_findWithin_197 ?_
      refine Go.iconst 1 dX12_findWithin_200 (by decide) ?_
      refine Go.iadd dX12_findWithin_201 ?_
      refine GM.puti 29 (by decide) rfl fl_looked rfl rfl rfl rfl dX12_findWithin_202 ?_
      refine Go.goto 26 dX12_findWithin_205 (by decide) ?_
      refine Go.sub [0, 1, 2] rfl ?_
      exact h26 _ _ _ h
    · refine Go.aload_n 0 dX12_findWithin_161 rfl ?_
      refine Go.iload 6 dX12_findWithin_162 rfl ?_
      refine Go.iconst 0 dX12_findWithin_164 (by decide) ?_
      refine GM.callvu (rest := []) [.int x6, .int 0] dX12_findWithin_165 ck_find ci_find (rt_find _ _) rfl rfl (Nat.le_of_ble_eq_true rfl) (Nat.le_of_ble_eq_true rfl) (Nat.le_of_ble_eq_true rfl) h (fun S7 h => ?_)
      refine Go.goto 26 dX12_findWithin_168 (by decide) ?_
      refine Go.sub [0, 1, 2] rfl ?_
      exact h26 _ _ _ h
  · refine Go.goto 26 dX12_findWithin_150 (by decide) ?_
    refine Go.sub [0, 1, 2] rfl ?_
    exact h26 _ _ _ h
set_option maxRecDepth 20000 in
theorem rs_findWithin_26 {l : Launch} {κ : KMt} {Z : MS} (n : Nat) : ∀ (x1 : Int32) (x2 : Int32) (S : MS), r_findWithin_26 n x1 x2 S = some Z → Go l (EM κ) RX12 cX12_findWithin 7 none 7 164 0 0 none Z 26 [(0, .ref κ.o), (1, .int x1), (2, .int x2)] [] S := by
  induction n with
  | zero => intro x1 x2 S h; rw [r_findWithin_26] at h; cases h
  | succ n ih =>
    intro x1 x2 S h
    rw [r_findWithin_26] at h
    refine Go.iload_n 2 dX12_findWithin_26 rfl ?_
    refine Go.if_lt 208 dX12_findWithin_27 (by decide) h (fun h => ?_) (fun h => ?_)
    · refine Go.aload_n 0 dX12_findWithin_208 rfl ?_
      refine Go.aload_n 0 dX12_findWithin_209 rfl ?_
      refine GM.geti 26 (by decide) rfl fl_founds rfl dX12_findWithin_210 ?_
      refine GM.puti 32 (by decide) rfl fl_answered rfl rfl rfl rfl dX12_findWithin_213 ?_
      cases h
      exact Go.vret dX12_findWithin_216 rfl
    · refine Go.aload_n 0 dX12_findWithin_30 rfl ?_
      refine GM.geta 4 4 (by decide) rfl fl_pathPage rfl dX12_findWithin_31 ?_
      refine Go.iload_n 2 dX12_findWithin_34 rfl ?_
      refine GM.iald 4 (by decide) rfl dX12_findWithin_35 h (fun v8 h => ?_)
      refine Go.istore_n [(0, .ref κ.o), (1, .int x1), (2, .int x2), (3, .int v8)] dX12_findWithin_36 (by decide) rfl ?_
      refine Go.aload_n 0 dX12_findWithin_37 rfl ?_
      refine GM.geta 5 5 (by decide) rfl fl_pathEntry rfl dX12_findWithin_38 ?_
      refine Go.iload_n 2 dX12_findWithin_41 rfl ?_
      refine GM.iald 5 (by decide) rfl dX12_findWithin_42 h (fun v9 h => ?_)
      refine Go.istore [(0, .ref κ.o), (1, .int x1), (2, .int x2), (3, .int v8), (4, .int v9)] dX12_findWithin_43 (by decide) rfl ?_
      refine Go.iload 4 dX12_findWithin_45 rfl ?_
      refine Go.aload_n 0 dX12_findWithin_47 rfl ?_
      refine Go.iload_n 3 dX12_findWithin_48 rfl ?_
      refine GM.callvr (rest := [.int v9]) [.int v8] dX12_findWithin_49 ck_countOf ci_countOf (rt_countOf _) rfl rfl (Nat.le_of_ble_eq_true rfl) (Nat.le_of_ble_eq_true rfl) (Nat.le_of_ble_eq_true rfl) h (fun v10 h => ?_)
      refine Go.icmp_ne 61 dX12_findWithin_52 (by decide) h (fun h => ?_) (fun h => ?_)
      · refine Go.aload_n 0 dX12_findWithin_61 rfl ?_
        refine GM.geta 5 5 (by decide) rfl fl_pathEntry rfl dX12_findWithin_62 ?_
        refine Go.iload_n 2 dX12_findWithin_65 rfl ?_
        refine Go.dup2 dX12_findWithin_66 rfl rfl ?_
        refine GM.iald 5 (by decide) rfl dX12_findWithin_67 h (fun v11 h => ?_)
        refine Go.iconst 1 dX12_findWithin_68 (by decide) ?_
        refine Go.iadd dX12_findWithin_69 ?_
        refine GM.iast 5 (by decide) rfl dX12_findWithin_70 h (fun S12 h => ?_)
        refine Go.aload_n 0 dX12_findWithin_71 rfl ?_
        refine Go.iload_n 3 dX12_findWithin_72 rfl ?_
        refine Go.iload 4 dX12_findWithin_73 rfl ?_
        refine Go.iconst 1 dX12_findWithin_75 (by decide) ?_
        refine GM.callvr (rest := []) [.int v8, .int v9, .int 1] dX12_findWithin_76 ck_entryOf ci_entryOf (rt_entryOf _ _ _) rfl rfl (Nat.le_of_ble_eq_true rfl) (Nat.le_of_ble_eq_true rfl) (Nat.le_of_ble_eq_true rfl) h (fun v13 h => ?_)
        refine Go.istore [(0, .ref κ.o), (1, .int x1), (2, .int x2), (3, .int v8), (4, .int v9), (5, .int v13)] dX12_findWithin_79 (by decide) rfl ?_
        refine Go.aload_n 0 dX12_findWithin_81 rfl ?_
        refine Go.iload_n 3 dX12_findWithin_82 rfl ?_
        refine Go.iload 4 dX12_findWithin_83 rfl ?_
        refine Go.iconst 0 dX12_findWithin_85 (by decide) ?_
        refine GM.callvr (rest := []) [.int v8, .int v9, .int 0] dX12_findWithin_86 ck_entryOf ci_entryOf (rt_entryOf _ _ _) rfl rfl (Nat.le_of_ble_eq_true rfl) (Nat.le_of_ble_eq_true rfl) (Nat.le_of_ble_eq_true rfl) h (fun v14 h => ?_)
        refine Go.istore [(0, .ref κ.o), (1, .int x1), (2, .int x2), (3, .int v8), (4, .int v9), (5, .int v13), (6, .int v14)] dX12_findWithin_89 (by decide) rfl ?_
        refine Go.iload_n 2 dX12_findWithin_91 rfl ?_
        refine Go.if_le 137 dX12_findWithin_92 (by decide) h (fun h => ?_) (fun h => ?_)
        · exact rs_findWithin_137 _ ih _ _ _ _ _ _ _ h
        · refine Go.aload_n 0 dX12_findWithin_95 rfl ?_
          refine GM.geta 24 17 (by decide) rfl fl_measured rfl dX12_findWithin_96 ?_
          refine Go.aload_n 0 dX12_findWithin_99 rfl ?_
          refine Go.iload_n 2 dX12_findWithin_100 rfl ?_
          refine GM.callvr (rest := [.ref (κ.o + 1 + 17)]) [.int x2] dX12_findWithin_101 ck_centreAbove ci_centreAbove (rt_centreAbove _) rfl rfl (Nat.le_of_ble_eq_true rfl) (Nat.le_of_ble_eq_true rfl) (Nat.le_of_ble_eq_true rfl) h (fun v15 h => ?_)
          refine GM.iald 17 (by decide) rfl dX12_findWithin_104 h (fun v16 h => ?_)
          refine Go.aload_n 0 dX12_findWithin_105 rfl ?_
          refine Go.iload_n 3 dX12_findWithin_106 rfl ?_
          refine Go.iload 4 dX12_findWithin_107 rfl ?_
          refine Go.iconst 2 dX12_findWithin_109 (by decide) ?_
          refine GM.callvr (rest := [.int v16]) [.int v8, .int v9, .int 2] dX12_findWithin_110 ck_entryOf ci_entryOf (rt_entryOf _ _ _) rfl rfl (Nat.le_of_ble_eq_true rfl) (Nat.le_of_ble_eq_true rfl) (Nat.le_of_ble_eq_true rfl) h (fun v17 h => ?_)
          refine Go.isub dX12_findWithin_113 ?_
          refine GM.callsr (rest := []) [.int (v16 - v17)] dX12_findWithin_114 ck_size ci_size (rt_size _) rfl rfl (Nat.le_of_ble_eq_true rfl) (Nat.le_of_ble_eq_true rfl) (Nat.le_of_ble_eq_true rfl) h (fun v18 h => ?_)
          refine Go.iload_n 1 dX12_findWithin_117 rfl ?_
          refine Go.iload 5 dX12_findWithin_118 rfl ?_
          refine Go.iadd dX12_findWithin_120 ?_
          refine Go.icmp_le 137 dX12_findWithin_121 (by decide) h (fun h => ?_) (fun h => ?_)
          · exact rs_findWithin_137 _ ih _ _ _ _ _ _ _ h
          · refine Go.aload_n 0 dX12_findWithin_124 rfl ?_
            refine Go.dup dX12_findWithin_125 rfl ?_
            refine GM.geti 28 (by decide) rfl fl_spared rfl dX12_findWithin_126 ?_
            refine Go.iconst 1 dX12_findWithin_129 (by decide) ?_
            refine Go.iadd dX12_findWithin_130 ?_
            refine GM.puti 28 (by decide) rfl fl_spared rfl rfl rfl rfl dX12_findWithin_131 ?_
            refine Go.goto 26 dX12_findWithin_134 (by decide) ?_
            refine Go.sub [0, 1, 2] rfl ?_
            exact ih _ _ _ h
      · refine Go.iinc (w := (-1)) 2 [(0, .ref κ.o), (1, .int x1), (2, .int (x2 + (-1))), (3, .int v8), (4, .int v9)] dX12_findWithin_55 rfl (by decide) (by decide) rfl ?_
        refine Go.goto 26 dX12_findWithin_58 (by decide) ?_
        refine Go.sub [0, 1, 2] rfl ?_
        exact ih _ _ _ h
set_option maxRecDepth 20000 in
theorem rs_findWithin {l : Launch} {κ : KMt} {S : MS} {Z : MS} (x1 : Int32) (h : r_findWithin S x1 = some Z) : Go l (EM κ) RX12 cX12_findWithin 7 none 7 164 0 0 none Z 0 [(0, .ref κ.o), (1, .int x1)] [] S := by
  unfold r_findWithin at h
  refine Go.iconst 0 dX12_findWithin_0 (by decide) ?_
  refine Go.istore_n [(0, .ref κ.o), (1, .int x1), (2, .int 0)] dX12_findWithin_1 (by decide) rfl ?_
  refine Go.aload_n 0 dX12_findWithin_2 rfl ?_
  refine GM.geta 4 4 (by decide) rfl fl_pathPage rfl dX12_findWithin_3 ?_
  refine Go.iconst 0 dX12_findWithin_6 (by decide) ?_
  refine Go.aload_n 0 dX12_findWithin_7 rfl ?_
  refine GM.geta 0 0 (by decide) rfl fl_a rfl dX12_findWithin_8 ?_
  refine Go.iconst 2 dX12_findWithin_11 (by decide) ?_
  refine GM.iald 0 (by decide) rfl dX12_findWithin_12 h (fun v19 h => ?_)
  refine GM.iast 4 (by decide) rfl dX12_findWithin_13 h (fun S20 h => ?_)
  refine Go.aload_n 0 dX12_findWithin_14 rfl ?_
  refine GM.geta 5 5 (by decide) rfl fl_pathEntry rfl dX12_findWithin_15 ?_
  refine Go.iconst 0 dX12_findWithin_18 (by decide) ?_
  refine Go.iconst 0 dX12_findWithin_19 (by decide) ?_
  refine GM.iast 5 (by decide) rfl dX12_findWithin_20 h (fun S21 h => ?_)
  refine Go.aload_n 0 dX12_findWithin_21 rfl ?_
  refine Go.iconst 1 dX12_findWithin_22 (by decide) ?_
  refine GM.puti 29 (by decide) rfl fl_looked rfl rfl rfl rfl dX12_findWithin_23 ?_
  exact rs_findWithin_26 _ _ _ _ h
set_option maxRecDepth 20000 in
theorem rt_findWithin {l : Launch} {κ : KMt} {S : MS} (x1 : Int32) : ∀ Z, r_findWithin S x1 = some Z → MtM l κ yX12_findWithin cX12_findWithin 7 none 7 164 [.ref κ.o, .int x1] S none Z := fun Z h => MtM.of (by decide +kernel) rfl (Nat.le_of_ble_eq_true rfl) ⟨rfl, rfl, trivial⟩ (rs_findWithin x1 h)
/-! queue -/
def r_queue (S : MS) (x1 : Int32) (x2 : Int32) (x3 : Int32) : Option (MS) := (wr S 19 (S.2 37) x1).bind (fun S1 => (wr S1 20 (S1.2 37) x2).bind (fun S2 => (wr S2 21 (S2.2 37) x3).bind (fun S3 => some (pf S3 37 ((S3.2 37) + 1)))))
set_option maxRecDepth 20000 in
theorem rs_queue {l : Launch} {κ : KMt} {S : MS} {Z : MS} (x1 : Int32) (x2 : Int32) (x3 : Int32) (h : r_queue S x1 x2 x3 = some Z) : Go l (EM κ) RX12 cX12_queue 4 none 0 0 0 0 none Z 0 [(0, .ref κ.o), (1, .int x1), (2, .int x2), (3, .int x3)] [] S := by
  unfold r_queue at h
  refine Go.aload_n 0 dX12_queue_0 rfl ?_
  refine GM.geta 34 19 (by decide) rfl fl_waitPage rfl dX12_queue_1 ?_
  refine Go.aload_n 0 dX12_queue_4 rfl ?_
  refine GM.geti 37 (by decide) rfl fl_waiting rfl dX12_queue_5 ?_
  refine Go.iload_n 1 dX12_queue_8 rfl ?_
  refine GM.iast 19 (by decide) rfl dX12_queue_9 h (fun S1 h => ?_)
  refine Go.aload_n 0 dX12_queue_10 rfl ?_
  refine GM.geta 35 20 (by decide) rfl fl_waitBound rfl dX12_queue_11 ?_
  refine Go.aload_n 0 dX12_queue_14 rfl ?_
  refine GM.geti 37 (by decide) rfl fl_waiting rfl dX12_queue_15 ?_
  refine Go.iload_n 2 dX12_queue_18 rfl ?_
  refine GM.iast 20 (by decide) rfl dX12_queue_19 h (fun S2 h => ?_)
  refine Go.aload_n 0 dX12_queue_20 rfl ?_
  refine GM.geta 36 21 (by decide) rfl fl_waitFar rfl dX12_queue_21 ?_
  refine Go.aload_n 0 dX12_queue_24 rfl ?_
  refine GM.geti 37 (by decide) rfl fl_waiting rfl dX12_queue_25 ?_
  refine Go.iload_n 3 dX12_queue_28 rfl ?_
  refine GM.iast 21 (by decide) rfl dX12_queue_29 h (fun S3 h => ?_)
  refine Go.aload_n 0 dX12_queue_30 rfl ?_
  refine Go.dup dX12_queue_31 rfl ?_
  refine GM.geti 37 (by decide) rfl fl_waiting rfl dX12_queue_32 ?_
  refine Go.iconst 1 dX12_queue_35 (by decide) ?_
  refine Go.iadd dX12_queue_36 ?_
  refine GM.puti 37 (by decide) rfl fl_waiting rfl rfl rfl rfl dX12_queue_37 ?_
  cases h
  exact Go.vret dX12_queue_40 rfl
set_option maxRecDepth 20000 in
theorem rt_queue {l : Launch} {κ : KMt} {S : MS} (x1 : Int32) (x2 : Int32) (x3 : Int32) : ∀ Z, r_queue S x1 x2 x3 = some Z → MtM l κ yX12_queue cX12_queue 4 none 0 0 [.ref κ.o, .int x1, .int x2, .int x3] S none Z := fun Z h => MtM.of (by decide +kernel) rfl (Nat.le_of_ble_eq_true rfl) ⟨rfl, rfl, rfl, rfl, trivial⟩ (rs_queue x1 x2 x3 h)
/-! limitOf -/
def r_limitOf (S : MS) (x1 : Int32) : Option (Int32) := if x1 ≤ (S.2 26) then (rd S 18 (x1 - 1)).bind (fun v1 => (rd S 17 v1).bind (fun v2 => some v2)) else some (-1)
set_option maxRecDepth 20000 in
theorem rs_limitOf {l : Launch} {κ : KMt} {S : MS} {Z : Int32} (x1 : Int32) (h : r_limitOf S x1 = some Z) : Go l (EM κ) RX12 cX12_limitOf 2 (some .int) 0 0 0 0 (some (.int Z)) S 0 [(0, .ref κ.o), (1, .int x1)] [] S := by
  unfold r_limitOf at h
  refine Go.aload_n 0 dX12_limitOf_0 rfl ?_
  refine GM.geti 26 (by decide) rfl fl_founds rfl dX12_limitOf_1 ?_
  refine Go.iload_n 1 dX12_limitOf_4 rfl ?_
  refine Go.icmp_ge 12 dX12_limitOf_5 (by decide) h (fun h => ?_) (fun h => ?_)
  · refine Go.aload_n 0 dX12_limitOf_12 rfl ?_
    refine GM.geta 24 17 (by decide) rfl fl_measured rfl dX12_limitOf_13 ?_
    refine Go.aload_n 0 dX12_limitOf_16 rfl ?_
    refine GM.geta 25 18 (by decide) rfl fl_found rfl dX12_limitOf_17 ?_
    refine Go.iload_n 1 dX12_limitOf_20 rfl ?_
    refine Go.iconst 1 dX12_limitOf_21 (by decide) ?_
    refine Go.isub dX12_limitOf_22 ?_
    refine GM.iald 18 (by decide) rfl dX12_limitOf_23 h (fun v1 h => ?_)
    refine GM.iald 17 (by decide) rfl dX12_limitOf_24 h (fun v2 h => ?_)
    cases h
    exact Go.iret dX12_limitOf_25 rfl
  · refine Go.iconst (-1) dX12_limitOf_8 (by decide) ?_
    refine Go.goto 25 dX12_limitOf_9 (by decide) ?_
    cases h
    exact Go.iret dX12_limitOf_25 rfl
set_option maxRecDepth 20000 in
theorem rt_limitOf {l : Launch} {κ : KMt} {S : MS} (x1 : Int32) : ∀ Z, r_limitOf S x1 = some Z → MtM l κ yX12_limitOf cX12_limitOf 2 (some .int) 0 0 [.ref κ.o, .int x1] S (some (.int Z)) S := fun Z h => MtM.of (by decide +kernel) rfl (Nat.le_of_ble_eq_true rfl) ⟨rfl, rfl, trivial⟩ (rs_limitOf x1 h)
/-! nextWaiting -/
def r_nextWaiting_66 (S : MS) (k4 : Int32 → Int32 → Int32 → Option (Int32)) (x1 : Int32) (x2 : Int32) (x3 : Int32) : Option (Int32) := k4 x1 x2 (x3 + 1)
def r_nextWaiting_64 (S : MS) (k4 : Int32 → Int32 → Int32 → Option (Int32)) (x1 : Int32) (x3 : Int32) : Option (Int32) := r_nextWaiting_66 S k4 x1 x3 x3
def r_nextWaiting_4 (S : MS)  : Nat → Int32 → Int32 → Int32 → Option (Int32)
  | 0, _, _, _ => none
  | n + 1, x1, x2, x3 => if (S.2 37) ≤ x3 then some x2 else (rd S 19 x3).bind (fun v1 => if v1 = (-1) then r_nextWaiting_66 S (r_nextWaiting_4 S n) x1 x2 x3 else if x2 = (-1) then r_nextWaiting_64 S (r_nextWaiting_4 S n) x1 x3 else if x1 = 0 then (rd S 20 x3).bind (fun v2 => (rd S 20 x2).bind (fun v3 => if v3 ≤ v2 then r_nextWaiting_66 S (r_nextWaiting_4 S n) x1 x2 x3 else r_nextWaiting_64 S (r_nextWaiting_4 S n) x1 x3)) else (rd S 20 x3).bind (fun v4 => (rd S 20 x2).bind (fun v5 => if v4 ≤ v5 then r_nextWaiting_66 S (r_nextWaiting_4 S n) x1 x2 x3 else r_nextWaiting_64 S (r_nextWaiting_4 S n) x1 x3)))
def r_nextWaiting (S : MS) (x1 : Int32) : Option (Int32) := r_nextWaiting_4 S FU x1 (-1) 0
set_option maxRecDepth 20000 in
theorem rs_nextWaiting_66 {l : Launch} {κ : KMt} {S : MS} {Z : Int32} (k4 : Int32 → Int32 → Int32 → Option (Int32)) (h4 : ∀ (x1 : Int32) (x2 : Int32) (x3 : Int32), k4 x1 x2 x3 = some Z → Go l (EM κ) RX12 cX12_nextWaiting 4 (some .int) 0 0 0 0 (some (.int Z)) S 4 [(0, .ref κ.o), (1, .int x1), (2, .int x2), (3, .int x3)] [] S) (x1 : Int32) (x2 : Int32) (x3 : Int32) (h : r_nextWaiting_66 S k4 x1 x2 x3 = some Z) : Go l (EM κ) RX12 cX12_nextWaiting 4 (some .int) 0 0 0 0 (some (.int Z)) S 66 [(0, .ref κ.o), (1, .int x1), (2, .int x2), (3, .int x3)] [] S := by
  unfold r_nextWaiting_66 at h
  refine Go.iinc (w := 1) 3 [(0, .ref κ.o), (1, .int x1), (2, .int x2), (3, .int (x3 + 1))] dX12_nextWaiting_66 rfl (by decide) (by decide) rfl ?_
  refine Go.goto 4 dX12_nextWaiting_69 (by decide) ?_
  exact h4 _ _ _ h
set_option maxRecDepth 20000 in
theorem rs_nextWaiting_64 {l : Launch} {κ : KMt} {S : MS} {Z : Int32} (k4 : Int32 → Int32 → Int32 → Option (Int32)) (h4 : ∀ (x1 : Int32) (x2 : Int32) (x3 : Int32), k4 x1 x2 x3 = some Z → Go l (EM κ) RX12 cX12_nextWaiting 4 (some .int) 0 0 0 0 (some (.int Z)) S 4 [(0, .ref κ.o), (1, .int x1), (2, .int x2), (3, .int x3)] [] S) (x1 : Int32) (x3 : Int32) (h : r_nextWaiting_64 S k4 x1 x3 = some Z) : Go l (EM κ) RX12 cX12_nextWaiting 4 (some .int) 0 0 0 0 (some (.int Z)) S 64 [(0, .ref κ.o), (1, .int x1), (3, .int x3)] [] S := by
  unfold r_nextWaiting_64 at h
  refine Go.iload_n 2 dX12_nextWaiting_64 rfl ?_
  refine Go.istore_n [(0, .ref κ.o), (1, .int x1), (2, .int x3), (3, .int x3)] dX12_nextWaiting_65 (by decide) rfl ?_
  exact rs_nextWaiting_66 _ h4 _ _ _ h
set_option maxRecDepth 20000 in
theorem rs_nextWaiting_4 {l : Launch} {κ : KMt} {S : MS} {Z : Int32} (n : Nat) : ∀ (x1 : Int32) (x2 : Int32) (x3 : Int32), r_nextWaiting_4 S n x1 x2 x3 = some Z → Go l (EM κ) RX12 cX12_nextWaiting 4 (some .int) 0 0 0 0 (some (.int Z)) S 4 [(0, .ref κ.o), (1, .int x1), (2, .int x2), (3, .int x3)] [] S := by
  induction n with
  | zero => intro x1 x2 x3 h; rw [r_nextWaiting_4] at h; cases h
  | succ n ih =>
    intro x1 x2 x3 h
    rw [r_nextWaiting_4] at h
    refine Go.iload_n 3 dX12_nextWaiting_4 rfl ?_
    refine Go.aload_n 0 dX12_nextWaiting_5 rfl ?_
    refine GM.geti 37 (by decide) rfl fl_waiting rfl dX12_nextWaiting_6 ?_
    refine Go.icmp_ge 72 dX12_nextWaiting_9 (by decide) h (fun h => ?_) (fun h => ?_)
    · refine Go.iload_n 2 dX12_nextWaiting_72 rfl ?_
      cases h
      exact Go.iret dX12_nextWaiting_73 rfl
    · refine Go.aload_n 0 dX12_nextWaiting_12 rfl ?_
      refine GM.geta 34 19 (by decide) rfl fl_waitPage rfl dX12_nextWaiting_13 ?_
      refine Go.iload_n 3 dX12_nextWaiting_16 rfl ?_
      refine GM.iald 19 (by decide) rfl dX12_nextWaiting_17 h (fun v1 h => ?_)
      refine Go.iconst (-1) dX12_nextWaiting_18 (by decide) ?_
      refine Go.icmp_eq 66 dX12_nextWaiting_19 (by decide) h (fun h => ?_) (fun h => ?_)
      · exact rs_nextWaiting_66 _ ih _ _ _ h
      · refine Go.iload_n 2 dX12_nextWaiting_22 rfl ?_
        refine Go.iconst (-1) dX12_nextWaiting_23 (by decide) ?_
        refine Go.icmp_eq 64 dX12_nextWaiting_24 (by decide) h (fun h => ?_) (fun h => ?_)
        · refine Go.sub [0, 1, 3] rfl ?_
          exact rs_nextWaiting_64 _ ih _ _ h
        · refine Go.iload_n 1 dX12_nextWaiting_27 rfl ?_
          refine Go.if_eq 49 dX12_nextWaiting_28 (by decide) h (fun h => ?_) (fun h => ?_)
          · refine Go.aload_n 0 dX12_nextWaiting_49 rfl ?_
            refine GM.geta 35 20 (by decide) rfl fl_waitBound rfl dX12_nextWaiting_50 ?_
            refine Go.iload_n 3 dX12_nextWaiting_53 rfl ?_
            refine GM.iald 20 (by decide) rfl dX12_nextWaiting_54 h (fun v2 h => ?_)
            refine Go.aload_n 0 dX12_nextWaiting_55 rfl ?_
            refine GM.geta 35 20 (by decide) rfl fl_waitBound rfl dX12_nextWaiting_56 ?_
            refine Go.iload_n 2 dX12_nextWaiting_59 rfl ?_
            refine GM.iald 20 (by decide) rfl dX12_nextWaiting_60 h (fun v3 h => ?_)
            refine Go.icmp_ge 66 dX12_nextWaiting_61 (by decide) h (fun h => ?_) (fun h => ?_)
            · exact rs_nextWaiting_66 _ ih _ _ _ h
            · refine Go.sub [0, 1, 3] rfl ?_
              exact rs_nextWaiting_64 _ ih _ _ h
          · refine Go.aload_n 0 dX12_nextWaiting_31 rfl ?_
            refine GM.geta 35 20 (by decide) rfl fl_waitBound rfl dX12_nextWaiting_32 ?_
            refine Go.iload_n 3 dX12_nextWaiting_35 rfl ?_
            refine GM.iald 20 (by decide) rfl dX12_nextWaiting_36 h (fun v4 h => ?_)
            refine Go.aload_n 0 dX12_nextWaiting_37 rfl ?_
            refine GM.geta 35 20 (by decide) rfl fl_waitBound rfl dX12_nextWaiting_38 ?_
            refine Go.iload_n 2 dX12_nextWaiting_41 rfl ?_
            refine GM.iald 20 (by decide) rfl dX12_nextWaiting_42 h (fun v5 h => ?_)
            refine Go.icmp_le 66 dX12_nextWaiting_43 (by decide) h (fun h => ?_) (fun h => ?_)
            · exact rs_nextWaiting_66 _ ih _ _ _ h
            · refine Go.goto 64 dX12_nextWaiting_46 (by decide) ?_
              refine Go.sub [0, 1, 3] rfl ?_
              exact rs_nextWaiting_64 _ ih _ _ h
set_option maxRecDepth 20000 in
theorem rs_nextWaiting {l : Launch} {κ : KMt} {S : MS} {Z : Int32} (x1 : Int32) (h : r_nextWaiting S x1 = some Z) : Go l (EM κ) RX12 cX12_nextWaiting 4 (some .int) 0 0 0 0 (some (.int Z)) S 0 [(0, .ref κ.o), (1, .int x1)] [] S := by
  unfold r_nextWaiting at h
  refine Go.iconst (-1) dX12_nextWaiting_0 (by decide) ?_
  refine Go.istore_n [(0, .ref κ.o), (1, .int x1), (2, .int (-1))] dX12_nextWaiting_1 (by decide) rfl ?_
  refine Go.iconst 0 dX12_nextWaiting_2 (by decide) ?_
  refine Go.istore_n [(0, .ref κ.o), (1, .int x1), (2, .int (-1)), (3, .int 0)] dX12_nextWaiting_3 (by decide) rfl ?_
  exact rs_nextWaiting_4 _ _ _ _ h
set_option maxRecDepth 20000 in
theorem rt_nextWaiting {l : Launch} {κ : KMt} {S : MS} (x1 : Int32) : ∀ Z, r_nextWaiting S x1 = some Z → MtM l κ yX12_nextWaiting cX12_nextWaiting 4 (some .int) 0 0 [.ref κ.o, .int x1] S (some (.int Z)) S := fun Z h => MtM.of (by decide +kernel) rfl (Nat.le_of_ble_eq_true rfl) ⟨rfl, rfl, trivial⟩ (rs_nextWaiting x1 h)
/-! isSpared -/
def r_isSpared (S : MS) (x1 : Int32) (x2 : Int32) (x3 : Int32) (x4 : Int32) (x5 : Int32) : Option (Int32) := if x3 = (-1) then zb 0 else if x4 = (-1) then zb 0 else (r_entryOf S x1 x2 2).bind (fun v1 => (r_entryOf S x1 x2 1).bind (fun v2 => if x5 = 0 then (r_size S (x3 - v1)).bind (fun v3 => if v3 ≤ (v2 + x4) then zb 0 else zb 1) else if x4 ≤ ((x3 + v1) + v2) then zb 0 else zb 1))
set_option maxRecDepth 20000 in
theorem rs_isSpared {l : Launch} {κ : KMt} {S : MS} {Z : Int32} (x1 : Int32) (x2 : Int32) (x3 : Int32) (x4 : Int32) (x5 : Int32) (h : r_isSpared S x1 x2 x3 x4 x5 = some Z) : Go l (EM κ) RX12 cX12_isSpared 8 (some .boolean) 2 45 0 0 (some (.int Z)) S 0 [(0, .ref κ.o), (1, .int x1), (2, .int x2), (3, .int x3), (4, .int x4), (5, .int x5)] [] S := by
  unfold r_isSpared at h
  refine Go.iload_n 3 dX12_isSpared_0 rfl ?_
  refine Go.iconst (-1) dX12_isSpared_1 (by decide) ?_
  refine Go.icmp_eq 11 dX12_isSpared_2 (by decide) h (fun h => ?_) (fun h => ?_)
  · refine Go.iconst 0 dX12_isSpared_11 (by decide) ?_
    exact Go.zret dX12_isSpared_12 rfl h
  · refine Go.iload 4 dX12_isSpared_5 rfl ?_
    refine Go.iconst (-1) dX12_isSpared_7 (by decide) ?_
    refine Go.icmp_ne 13 dX12_isSpared_8 (by decide) h (fun h => ?_) (fun h => ?_)
    · refine Go.aload_n 0 dX12_isSpared_13 rfl ?_
      refine Go.iload_n 1 dX12_isSpared_14 rfl ?_
      refine Go.iload_n 2 dX12_isSpared_15 rfl ?_
      refine Go.iconst 2 dX12_isSpared_16 (by decide) ?_
      refine GM.callvr (rest := []) [.int x1, .int x2, .int 2] dX12_isSpared_17 ck_entryOf ci_entryOf (rt_entryOf _ _ _) rfl rfl (Nat.le_of_ble_eq_true rfl) (Nat.le_of_ble_eq_true rfl) (Nat.le_of_ble_eq_true rfl) h (fun v1 h => ?_)
      refine Go.istore [(0, .ref κ.o), (1, .int x1), (2, .int x2), (3, .int x3), (4, .int x4), (5, .int x5), (6, .int v1)] dX12_isSpared_20 (by decide) rfl ?_
      refine Go.aload_n 0 dX12_isSpared_22 rfl ?_
      refine Go.iload_n 1 dX12_isSpared_23 rfl ?_
      refine Go.iload_n 2 dX12_isSpared_24 rfl ?_
      refine Go.iconst 1 dX12_isSpared_25 (by decide) ?_
      refine GM.callvr (rest := []) [.int x1, .int x2, .int 1] dX12_isSpared_26 ck_entryOf ci_entryOf (rt_entryOf _ _ _) rfl rfl (Nat.le_of_ble_eq_true rfl) (Nat.le_of_ble_eq_true rfl) (Nat.le_of_ble_eq_true rfl) h (fun v2 h => ?_)
      refine Go.istore [(0, .ref κ.o), (1, .int x1), (2, .int x2), (3, .int x3), (4, .int x4), (5, .int x5), (6, .int v1), (7, .int v2)] dX12_isSpared_29 (by decide) rfl ?_
      refine Go.iload 5 dX12_isSpared_31 rfl ?_
      refine Go.if_eq 56 dX12_isSpared_33 (by decide) h (fun h => ?_) (fun h => ?_)
      · refine Go.iload_n 3 dX12_isSpared_56 rfl ?_
        refine Go.iload 6 dX12_isSpared_57 rfl ?_
        refine Go.isub dX12_isSpared_59 ?_
        refine GM.callsr (rest := []) [.int (x3 - v1)] dX12_isSpared_60 ck_size ci_size (rt_size _) rfl rfl (Nat.le_of_ble_eq_true rfl) (Nat.le_of_ble_eq_true rfl) (Nat.le_of_ble_eq_true rfl) h (fun v3 h => ?_)
        refine Go.iload 7 dX12_isSpared_63 rfl ?_
        refine Go.iload 4 dX12_isSpared_65 rfl ?_
        refine Go.iadd dX12_isSpared_67 ?_
        refine Go.icmp_le 75 dX12_isSpared_68 (by decide) h (fun h => ?_) (fun h => ?_)
        · refine Go.iconst 0 dX12_isSpared_75 (by decide) ?_
          exact Go.zret dX12_isSpared_76 rfl h
        · refine Go.iconst 1 dX12_isSpared_71 (by decide) ?_
          refine Go.goto 76 dX12_isSpared_72 (by decide) ?_
          exact Go.zret dX12_isSpared_76 rfl h
      · refine Go.iload_n 3 dX12_isSpared_36 rfl ?_
        refine Go.iload 6 dX12_isSpared_37 rfl ?_
        refine Go.iadd dX12_isSpared_39 ?_
        refine Go.iload 7 dX12_isSpared_40 rfl ?_
        refine Go.iadd dX12_isSpared_42 ?_
        refine Go.iload 4 dX12_isSpared_43 rfl ?_
        refine Go.icmp_ge 52 dX12_isSpared_45 (by decide) h (fun h => ?_) (fun h => ?_)
        · refine Go.iconst 0 dX12_isSpared_52 (by decide) ?_
          refine Go.goto 76 dX12_isSpared_53 (by decide) ?_
          exact Go.zret dX12_isSpared_76 rfl h
        · refine Go.iconst 1 dX12_isSpared_48 (by decide) ?_
          refine Go.goto 76 dX12_isSpared_49 (by decide) ?_
          exact Go.zret dX12_isSpared_76 rfl h
    · refine Go.iconst 0 dX12_isSpared_11 (by decide) ?_
      exact Go.zret dX12_isSpared_12 rfl h
set_option maxRecDepth 20000 in
theorem rt_isSpared {l : Launch} {κ : KMt} {S : MS} (x1 : Int32) (x2 : Int32) (x3 : Int32) (x4 : Int32) (x5 : Int32) : ∀ Z, r_isSpared S x1 x2 x3 x4 x5 = some Z → MtM l κ yX12_isSpared cX12_isSpared 8 (some .boolean) 2 45 [.ref κ.o, .int x1, .int x2, .int x3, .int x4, .int x5] S (some (.int Z)) S := fun Z h => MtM.of (by decide +kernel) rfl (Nat.le_of_ble_eq_true rfl) ⟨rfl, rfl, rfl, rfl, rfl, rfl, trivial⟩ (rs_isSpared x1 x2 x3 x4 x5 h)
/-! lookInto -/
def r_lookInto_183 (k13 : Int32 → Int32 → Int32 → Int32 → Int32 → MS → Option (MS)) (x1 : Int32) (x2 : Int32) (x3 : Int32) (x4 : Int32) (x5 : Int32) (S : MS) : Option (MS) := k13 x1 x2 x3 x4 (x5 + 1) S
def r_lookInto_167 (k13 : Int32 → Int32 → Int32 → Int32 → Int32 → MS → Option (MS)) (x1 : Int32) (x2 : Int32) (x3 : Int32) (x4 : Int32) (x5 : Int32) (x7 : Int32) (x9 : Int32) (S : MS) : Option (MS) := (r_entryOf S x1 x5 3).bind (fun v1 => (r_queue S v1 x9 x7).bind (fun S2 => r_lookInto_183 k13 x1 x2 x3 x4 x5 S2))
def r_lookInto_130 (k13 : Int32 → Int32 → Int32 → Int32 → Int32 → MS → Option (MS)) (x1 : Int32) (x2 : Int32) (x3 : Int32) (x4 : Int32) (x5 : Int32) (x7 : Int32) (y0 : Int32) (S : MS) : Option (MS) := (r_limitOf S x3).bind (fun v3 => if v3 = (-1) then r_lookInto_167 k13 x1 x2 x3 x4 x5 x7 y0 S else if x4 = 0 then if v3 < y0 then r_lookInto_183 k13 x1 x2 x3 x4 x5 S else r_lookInto_167 k13 x1 x2 x3 x4 x5 x7 y0 S else if y0 < v3 then r_lookInto_183 k13 x1 x2 x3 x4 x5 S else r_lookInto_167 k13 x1 x2 x3 x4 x5 x7 y0 S)
def r_lookInto_13  : Nat → Int32 → Int32 → Int32 → Int32 → Int32 → MS → Option (MS)
  | 0, _, _, _, _, _, _ => none
  | n + 1, x1, x2, x3, x4, x5, S => (r_countOf S x1).bind (fun v4 => if v4 ≤ x5 then some S else (r_limitOf S x3).bind (fun v5 => (r_isSpared S x1 x5 x2 v5 x4).bind (fun v6 => if v6 = 0 then (r_entryOf S x1 x5 0).bind (fun v7 => bd2 (r_wayTo S v7) (fun v8 S9 => (r_isLeaf S9 x1).bind (fun v10 => if v10 = 0 then (r_entryOf S9 x1 x5 1).bind (fun v11 => if x4 = 0 then if v8 ≤ v11 then r_lookInto_130 (r_lookInto_13 n) x1 x2 x3 x4 x5 v8 0 S9 else r_lookInto_130 (r_lookInto_13 n) x1 x2 x3 x4 x5 v8 (v8 - v11) S9 else r_lookInto_130 (r_lookInto_13 n) x1 x2 x3 x4 x5 v8 (v8 + v11) S9) else (r_find S9 v7 x4).bind (fun S12 => r_lookInto_183 (r_lookInto_13 n) x1 x2 x3 x4 x5 S12)))) else r_lookInto_183 (r_lookInto_13 n) x1 x2 x3 x4 x5 (pf S 28 ((S.2 28) + 1)))))
def r_lookInto (S : MS) (x1 : Int32) (x2 : Int32) (x3 : Int32) (x4 : Int32) : Option (MS) := r_lookInto_13 FU x1 x2 x3 x4 0 (pf S 29 ((S.2 29) + 1))
set_option maxRecDepth 20000 in
theorem rs_lookInto_183 {l : Launch} {κ : KMt} {Z : MS} (k13 : Int32 → Int32 → Int32 → Int32 → Int32 → MS → Option (MS)) (h13 : ∀ (x1 : Int32) (x2 : Int32) (x3 : Int32) (x4 : Int32) (x5 : Int32) (S : MS), k13 x1 x2 x3 x4 x5 S = some Z → Go l (EM κ) RX12 cX12_lookInto 11 none 7 164 0 0 none Z 13 [(0, .ref κ.o), (1, .int x1), (2, .int x2), (3, .int x3), (4, .int x4), (5, .int x5)] [] S) (x1 : Int32) (x2 : Int32) (x3 : Int32) (x4 : Int32) (x5 : Int32) (S : MS) (h : r_lookInto_183 k13 x1 x2 x3 x4 x5 S = some Z) : Go l (EM κ) RX12 cX12_lookInto 11 none 7 164 0 0 none Z 183 [(0, .ref κ.o), (1, .int x1), (2, .int x2), (3, .int x3), (4, .int x4), (5, .int x5)] [] S := by
  unfold r_lookInto_183 at h
  refine Go.iinc (w := 1) 5 [(0, .ref κ.o), (1, .int x1), (2, .int x2), (3, .int x3), (4, .int x4), (5, .int (x5 + 1))] dX12_lookInto_183 rfl (by decide) (by decide) rfl ?_
  refine Go.goto 13 dX12_lookInto_186 (by decide) ?_
  exact h13 _ _ _ _ _ _ h
set_option maxRecDepth 20000 in
theorem rs_lookInto_167 {l : Launch} {κ : KMt} {Z : MS} (k13 : Int32 → Int32 → Int32 → Int32 → Int32 → MS → Option (MS)) (h13 : ∀ (x1 : Int32) (x2 : Int32) (x3 : Int32) (x4 : Int32) (x5 : Int32) (S : MS), k13 x1 x2 x3 x4 x5 S = some Z → Go l (EM κ) RX12 cX12_lookInto 11 none 7 164 0 0 none Z 13 [(0, .ref κ.o), (1, .int x1), (2, .int x2), (3, .int x3), (4, .int x4), (5, .int x5)] [] S) (x1 : Int32) (x2 : Int32) (x3 : Int32) (x4 : Int32) (x5 : Int32) (x7 : Int32) (x9 : Int32) (S : MS) (h : r_lookInto_167 k13 x1 x2 x3 x4 x5 x7 x9 S = some Z) : Go l (EM κ) RX12 cX12_lookInto 11 none 7 164 0 0 none Z 167 [(0, .ref κ.o), (1, .int x1), (2, .int x2), (3, .int x3), (4, .int x4), (5, .int x5), (7, .int x7), (9, .int x9)] [] S := by
  unfold r_lookInto_167 at h
  refine Go.aload_n 0 dX12_lookInto_167 rfl ?_
  refine Go.aload_n 0 dX12_lookInto_168 rfl ?_
  refine Go.iload_n 1 dX12_lookInto_169 rfl ?_
  refine Go.iload 5 dX12_lookInto_170 rfl ?_
  refine Go.iconst 3 dX12_lookInto_172 (by decide) ?_
  refine GM.callvr (rest := [.ref κ.o]) [.int x1, .int x5, .int 3] dX12_lookInto_173 ck_entryOf ci_entryOf (rt_entryOf _ _ _) rfl rfl (Nat.le_of_ble_eq_true rfl) (Nat.le_of_ble_eq_true rfl) (Nat.le_of_ble_eq_true rfl) h (fun v1 h => ?_)
  refine Go.iload 7 dX12_lookInto_176 rfl ?_
  refine Go.iload 6 dX12_lookInto_178 rfl ?_
  refine GM.callvu (rest := []) [.int v1, .int x9, .int x7] dX12_lookInto_180 ck_queue ci_queue (rt_queue _ _ _) rfl rfl (Nat.le_of_ble_eq_true rfl) (Nat.le_of_ble_eq_true rfl) (Nat.le_of_ble_eq_true rfl) h (fun S2 h => ?_)
  refine Go.sub [0, 1, 2, 3, 4, 5] rfl ?_
  exact rs_lookInto_183 _ h13 _ _ _ _ _ _ h
set_option maxRecDepth 20000 in
theorem rs_lookInto_130 {l : Launch} {κ : KMt} {Z : MS} (k13 : Int32 → Int32 → Int32 → Int32 → Int32 → MS → Option (MS)) (h13 : ∀ (x1 : Int32) (x2 : Int32) (x3 : Int32) (x4 : Int32) (x5 : Int32) (S : MS), k13 x1 x2 x3 x4 x5 S = some Z → Go l (EM κ) RX12 cX12_lookInto 11 none 7 164 0 0 none Z 13 [(0, .ref κ.o), (1, .int x1), (2, .int x2), (3, .int x3), (4, .int x4), (5, .int x5)] [] S) (x1 : Int32) (x2 : Int32) (x3 : Int32) (x4 : Int32) (x5 : Int32) (x7 : Int32) (y0 : Int32) (S : MS) (h : r_lookInto_130 k13 x1 x2 x3 x4 x5 x7 y0 S = some Z) : Go l (EM κ) RX12 cX12_lookInto 11 none 7 164 0 0 none Z 130 [(0, .ref κ.o), (1, .int x1), (2, .int x2), (3, .int x3), (4, .int x4), (5, .int x5), (7, .int x7)] [.int y0] S := by
  unfold r_lookInto_130 at h
  refine Go.istore [(0, .ref κ.o), (1, .int x1), (2, .int x2), (3, .int x3), (4, .int x4), (5, .int x5), (7, .int x7), (9, .int y0)] dX12_lookInto_130 (by decide) rfl ?_
  refine Go.aload_n 0 dX12_lookInto_132 rfl ?_
  refine Go.iload_n 3 dX12_lookInto_133 rfl ?_
  refine GM.callvr (rest := []) [.int x3] dX12_lookInto_134 ck_limitOf ci_limitOf (rt_limitOf _) rfl rfl (Nat.le_of_ble_eq_true rfl) (Nat.le_of_ble_eq_true rfl) (Nat.le_of_ble_eq_true rfl) h (fun v3 h => ?_)
  refine Go.istore [(0, .ref κ.o), (1, .int x1), (2, .int x2), (3, .int x3), (4, .int x4), (5, .int x5), (7, .int x7), (9, .int y0), (10, .int v3)] dX12_lookInto_137 (by decide) rfl ?_
  refine Go.iload 8 dX12_lookInto_139 rfl ?_
  refine Go.iconst (-1) dX12_lookInto_141 (by decide) ?_
  refine Go.icmp_eq 167 dX12_lookInto_142 (by decide) h (fun h => ?_) (fun h => ?_)
  · refine Go.sub [0, 1, 2, 3, 4, 5, 6, 7] rfl ?_
    exact rs_lookInto_167 _ h13 _ _ _ _ _ _ _ _ h
  · refine Go.iload 4 dX12_lookInto_145 rfl ?_
    refine Go.if_eq 160 dX12_lookInto_147 (by decide) h (fun h => ?_) (fun h => ?_)
    · refine Go.iload 7 dX12_lookInto_160 rfl ?_
      refine Go.iload 8 dX12_lookInto_162 rfl ?_
      refine Go.icmp_gt 183 dX12_lookInto_164 (by decide) h (fun h => ?_) (fun h => ?_)
      · refine Go.sub [0, 1, 2, 3, 4, 5] rfl ?_
        exact rs_lookInto_183 _ h13 _ _ _ _ _ _ h
      · refine Go.sub [0, 1, 2, 3, 4, 5, 6, 7] rfl ?_
        exact rs_lookInto_167 _ h13 _ _ _ _ _ _ _ _ h
    · refine Go.iload 7 dX12_lookInto_150 rfl ?_
      refine Go.iload 8 dX12_lookInto_152 rfl ?_
      refine Go.icmp_lt 183 dX12_lookInto_154 (by decide) h (fun h => ?_) (fun h => ?_)
      · refine Go.sub [0, 1, 2, 3, 4, 5] rfl ?_
        exact rs_lookInto_183 _ h13 _ _ _ _ _ _ h
      · refine Go.goto 167 dX12_lookInto_157 (by decide) ?_
        refine Go.sub [0, 1, 2, 3, 4, 5, 6, 7] rfl ?_
        exact rs_lookInto_167 _ h13 _ _ _ _ _ _ _ _ h
set_option maxRecDepth 20000 in
theorem rs_lookInto_13 {l : Launch} {κ : KMt} {Z : MS} (n : Nat) : ∀ (x1 : Int32) (x2 : Int32) (x3 : Int32) (x4 : Int32) (x5 : Int32) (S : MS), r_lookInto_13 n x1 x2 x3 x4 x5 S = some Z → Go l (EM κ) RX12 cX12_lookInto 11 none 7 164 0 0 none Z 13 [(0, .ref κ.o), (1, .int x1), (2, .int x2), (3, .int x3), (4, .int x4), (5, .int x5)] [] S := by
  induction n with
  | zero => intro x1 x2 x3 x4 x5 S h; rw [r_lookInto_13] at h; cases h
  | succ n ih =>
    intro x1 x2 x3 x4 x5 S h
    rw [r_lookInto_13] at h
    refine Go.iload 5 dX12_lookInto_13 rfl ?_
    refine Go.aload_n 0 dX12_lookInto_15 rfl ?_
    refine Go.iload_n 1 dX12_lookInto_16 rfl ?_
    refine GM.callvr (rest := [.int x5]) [.int x1] dX12_lookInto_17 ck_countOf ci_countOf (rt_countOf _) rfl rfl (Nat.le_of_ble_eq_true rfl) (Nat.le_of_ble_eq_true rfl) (Nat.le_of_ble_eq_true rfl) h (fun v4 h => ?_)
    refine Go.icmp_ge 189 dX12_lookInto_20 (by decide) h (fun h => ?_) (fun h => ?_)
    · cases h
      exact Go.vret dX12_lookInto_189 rfl
    · refine Go.aload_n 0 dX12_lookInto_23 rfl ?_
      refine Go.iload_n 1 dX12_lookInto_24 rfl ?_
      refine Go.iload 5 dX12_lookInto_25 rfl ?_
      refine Go.iload_n 2 dX12_lookInto_27 rfl ?_
      refine Go.aload_n 0 dX12_lookInto_28 rfl ?_
      refine Go.iload_n 3 dX12_lookInto_29 rfl ?_
      refine GM.callvr (rest := [.int x2, .int x5, .int x1, .ref κ.o]) [.int x3] dX12_lookInto_30 ck_limitOf ci_limitOf (rt_limitOf _) rfl rfl (Nat.le_of_ble_eq_true rfl) (Nat.le_of_ble_eq_true rfl) (Nat.le_of_ble_eq_true rfl) h (fun v5 h => ?_)
      refine Go.iload 4 dX12_lookInto_33 rfl ?_
      refine GM.callvr (rest := []) [.int x1, .int x5, .int x2, .int v5, .int x4] dX12_lookInto_35 ck_isSpared ci_isSpared (rt_isSpared _ _ _ _ _) rfl rfl (Nat.le_of_ble_eq_true rfl) (Nat.le_of_ble_eq_true rfl) (Nat.le_of_ble_eq_true rfl) h (fun v6 h => ?_)
      refine Go.if_eq 54 dX12_lookInto_38 (by decide) h (fun h => ?_) (fun h => ?_)
      · refine Go.aload_n 0 dX12_lookInto_54 rfl ?_
        refine Go.iload_n 1 dX12_lookInto_55 rfl ?_
        refine Go.iload 5 dX12_lookInto_56 rfl ?_
        refine Go.iconst 0 dX12_lookInto_58 (by decide) ?_
        refine GM.callvr (rest := []) [.int x1, .int x5, .int 0] dX12_lookInto_59 ck_entryOf ci_entryOf (rt_entryOf _ _ _) rfl rfl (Nat.le_of_ble_eq_true rfl) (Nat.le_of_ble_eq_true rfl) (Nat.le_of_ble_eq_true rfl) h (fun v7 h => ?_)
        refine Go.istore [(0, .ref κ.o), (1, .int x1), (2, .int x2), (3, .int x3), (4, .int x4), (5, .int x5), (6, .int v7)] dX12_lookInto_62 (by decide) rfl ?_
        refine Go.aload_n 0 dX12_lookInto_64 rfl ?_
        refine Go.iload 6 dX12_lookInto_65 rfl ?_
        refine GM.callvw (rest := []) [.int v7] dX12_lookInto_67 ck_wayTo ci_wayTo (rt_wayTo _) rfl rfl (Nat.le_of_ble_eq_true rfl) (Nat.le_of_ble_eq_true rfl) (Nat.le_of_ble_eq_true rfl) h (fun v8 S9 h => ?_)
        refine Go.istore [(0, .ref κ.o), (1, .int x1), (2, .int x2), (3, .int x3), (4, .int x4), (5, .int x5), (6, .int v7), (7, .int v8)] dX12_lookInto_70 (by decide) rfl ?_
        refine Go.aload_n 0 dX12_lookInto_72 rfl ?_
        refine Go.iload_n 1 dX12_lookInto_73 rfl ?_
        refine GM.callvr (rest := []) [.int x1] dX12_lookInto_74 ck_isLeaf ci_isLeaf (rt_isLeaf _) rfl rfl (Nat.le_of_ble_eq_true rfl) (Nat.le_of_ble_eq_true rfl) (Nat.le_of_ble_eq_true rfl) h (fun v10 h => ?_)
        refine Go.if_eq 91 dX12_lookInto_77 (by decide) h (fun h => ?_) (fun h => ?_)
        · refine Go.aload_n 0 dX12_lookInto_91 rfl ?_
          refine Go.iload_n 1 dX12_lookInto_92 rfl ?_
          refine Go.iload 5 dX12_lookInto_93 rfl ?_
          refine Go.iconst 1 dX12_lookInto_95 (by decide) ?_
          refine GM.callvr (rest := []) [.int x1, .int x5, .int 1] dX12_lookInto_96 ck_entryOf ci_entryOf (rt_entryOf _ _ _) rfl rfl (Nat.le_of_ble_eq_true rfl) (Nat.le_of_ble_eq_true rfl) (Nat.le_of_ble_eq_true rfl) h (fun v11 h => ?_)
          refine Go.istore [(0, .ref κ.o), (1, .int x1), (2, .int x2), (3, .int x3), (4, .int x4), (5, .int x5), (6, .int v7), (7, .int v8), (8, .int v11)] dX12_lookInto_99 (by decide) rfl ?_
          refine Go.iload 4 dX12_lookInto_101 rfl ?_
          refine Go.if_eq 114 dX12_lookInto_103 (by decide) h (fun h => ?_) (fun h => ?_)
          · refine Go.iload 7 dX12_lookInto_114 rfl ?_
            refine Go.iload 8 dX12_lookInto_116 rfl ?_
            refine Go.icmp_le 129 dX12_lookInto_118 (by decide) h (fun h => ?_) (fun h => ?_)
            · refine Go.iconst 0 dX12_lookInto_129 (by decide) ?_
              refine Go.sub [0, 1, 2, 3, 4, 5, 7] rfl ?_
              exact rs_lookInto_130 _ ih _ _ _ _ _ _ _ _ h
            · refine Go.iload 7 dX12_lookInto_121 rfl ?_
              refine Go.iload 8 dX12_lookInto_123 rfl ?_
              refine Go.isub dX12_lookInto_125 ?_
              refine Go.goto 130 dX12_lookInto_126 (by decide) ?_
              refine Go.sub [0, 1, 2, 3, 4, 5, 7] rfl ?_
              exact rs_lookInto_130 _ ih _ _ _ _ _ _ _ _ h
          · refine Go.iload 7 dX12_lookInto_106 rfl ?_
            refine Go.iload 8 dX12_lookInto_108 rfl ?_
            refine Go.iadd dX12_lookInto_110 ?_
            refine Go.goto 130 dX12_lookInto_111 (by decide) ?_
            refine Go.sub [0, 1, 2, 3, 4, 5, 7] rfl ?_
            exact rs_lookInto_130 _ ih _ _ _ _ _ _ _ _ h
        · refine Go.aload_n 0 dX12_lookInto_80 rfl ?_
          refine Go.iload 6 dX12_lookInto_81 rfl ?_
          refine Go.iload 4 dX12_lookInto_83 rfl ?_
          refine GM.callvu (rest := []) [.int v7, .int x4] dX12_lookInto_85 ck_find ci_find (rt_find _ _) rfl rfl (Nat.le_of_ble_eq_true rfl) (Nat.le_of_ble_eq_true rfl) (Nat.le_of_ble_eq_true rfl) h (fun S12 h => ?_)
          refine Go.goto 183 dX12_lookInto_88 (by decide) ?_
          refine Go.sub [0, 1, 2, 3, 4, 5] rfl ?_
          exact rs_lookInto_183 _ ih _ _ _ _ _ _ h
      · refine Go.aload_n 0 dX12_lookInto_41 rfl ?_
        refine Go.dup dX12_lookInto_42 rfl ?_
        refine GM.geti 28 (by decide) rfl fl_spared rfl dX12_lookInto_43 ?_
        refine Go.iconst 1 dX12_lookInto_46 (by decide) ?_
        refine Go.iadd dX12_lookInto_47 ?_
        refine GM.puti 28 (by decide) rfl fl_spared rfl rfl rfl rfl dX12_lookInto_48 ?_
        refine Go.goto 183 dX12_lookInto_51 (by decide) ?_
        exact rs_lookInto_183 _ ih _ _ _ _ _ _ h
set_option maxRecDepth 20000 in
theorem rs_lookInto {l : Launch} {κ : KMt} {S : MS} {Z : MS} (x1 : Int32) (x2 : Int32) (x3 : Int32) (x4 : Int32) (h : r_lookInto S x1 x2 x3 x4 = some Z) : Go l (EM κ) RX12 cX12_lookInto 11 none 7 164 0 0 none Z 0 [(0, .ref κ.o), (1, .int x1), (2, .int x2), (3, .int x3), (4, .int x4)] [] S := by
  unfold r_lookInto at h
  refine Go.aload_n 0 dX12_lookInto_0 rfl ?_
  refine Go.dup dX12_lookInto_1 rfl ?_
  refine GM.geti 29 (by decide) rfl fl_looked rfl dX12_lookInto_2 ?_
  refine Go.iconst 1 dX12_lookInto_5 (by decide) ?_
  refine Go.iadd dX12_lookInto_6 ?_
  refine GM.puti 29 (by decide) rfl fl_looked rfl rfl rfl rfl dX12_lookInto_7 ?_
  refine Go.iconst 0 dX12_lookInto_10 (by decide) ?_
  refine Go.istore [(0, .ref κ.o), (1, .int x1), (2, .int x2), (3, .int x3), (4, .int x4), (5, .int 0)] dX12_lookInto_11 (by decide) rfl ?_
  exact rs_lookInto_13 _ _ _ _ _ _ _ h
set_option maxRecDepth 20000 in
theorem rt_lookInto {l : Launch} {κ : KMt} {S : MS} (x1 : Int32) (x2 : Int32) (x3 : Int32) (x4 : Int32) : ∀ Z, r_lookInto S x1 x2 x3 x4 = some Z → MtM l κ yX12_lookInto cX12_lookInto 11 none 7 164 [.ref κ.o, .int x1, .int x2, .int x3, .int x4] S none Z := fun Z h => MtM.of (by decide +kernel) rfl (Nat.le_of_ble_eq_true rfl) ⟨rfl, rfl, rfl, rfl, rfl, trivial⟩ (rs_lookInto x1 x2 x3 x4 h)
/-! findBest -/
def r_findBest_121  (x1 : Int32) (S : MS) : Option (MS) := (r_lesser S (S.2 26) x1).bind (fun v1 => some (pf S 32 v1))
def r_findBest_83 (k33 : Int32 → Int32 → Int32 → MS → Option (MS)) (x1 : Int32) (x2 : Int32) (x3 : Int32) (S : MS) : Option (MS) := (rd S 19 x3).bind (fun v2 => (wr S 19 x3 (-1)).bind (fun S3 => (rd S3 21 x3).bind (fun v4 => (r_lookInto S3 v2 v4 x1 x2).bind (fun S5 => (r_nextWaiting S5 x2).bind (fun v6 => k33 x1 x2 v6 S5)))))
def r_findBest_33  : Nat → Int32 → Int32 → Int32 → MS → Option (MS)
  | 0, _, _, _, _ => none
  | n + 1, x1, x2, x3, S => if x3 = (-1) then r_findBest_121 x1 S else (r_limitOf S x1).bind (fun v7 => if v7 = (-1) then r_findBest_83 (r_findBest_33 n) x1 x2 x3 S else if x2 = 0 then (rd S 20 x3).bind (fun v8 => if v8 ≤ v7 then r_findBest_83 (r_findBest_33 n) x1 x2 x3 S else r_findBest_121 x1 S) else (rd S 20 x3).bind (fun v9 => if v7 ≤ v9 then r_findBest_83 (r_findBest_33 n) x1 x2 x3 S else r_findBest_121 x1 S))
def r_findBest_23  (x1 : Int32) (x2 : Int32) (y1 : Int32) (y2 : Int32) (S : MS) : Option (MS) := (r_queue S y1 y2 (-1)).bind (fun S10 => (r_nextWaiting S10 x2).bind (fun v11 => r_findBest_33 FU x1 x2 v11 S10))
def r_findBest (S : MS) (x1 : Int32) (x2 : Int32) : Option (MS) := (rd (pf S 37 0) 0 2).bind (fun v12 => if x2 = 0 then r_findBest_23 x1 x2 v12 0 (pf S 37 0) else r_findBest_23 x1 x2 v12 1000 (pf S 37 0))
set_option maxRecDepth 20000 in
theorem rs_findBest_121 {l : Launch} {κ : KMt} {Z : MS} (x1 : Int32) (S : MS) (h : r_findBest_121 x1 S = some Z) : Go l (EM κ) RX12 cX12_findBest 6 none 8 194 0 0 none Z 121 [(0, .ref κ.o), (1, .int x1)] [] S := by
  unfold r_findBest_121 at h
  refine Go.aload_n 0 dX12_findBest_121 rfl ?_
  refine Go.aload_n 0 dX12_findBest_122 rfl ?_
  refine GM.geti 26 (by decide) rfl fl_founds rfl dX12_findBest_123 ?_
  refine Go.iload_n 1 dX12_findBest_126 rfl ?_
  refine GM.callsr (rest := [.ref κ.o]) [.int (S.2 26), .int x1] dX12_findBest_127 ck_lesser ci_lesser (rt_lesser _ _) rfl rfl (Nat.le_of_ble_eq_true rfl) (Nat.le_of_ble_eq_true rfl) (Nat.le_of_ble_eq_true rfl) h (fun v1 h => ?_)
  refine GM.puti 32 (by decide) rfl fl_answered rfl rfl rfl rfl dX12_findBest_130 ?_
  cases h
  exact Go.vret dX12_findBest_133 rfl
set_option maxRecDepth 20000 in
theorem rs_findBest_83 {l : Launch} {κ : KMt} {Z : MS} (k33 : Int32 → Int32 → Int32 → MS → Option (MS)) (h33 : ∀ (x1 : Int32) (x2 : Int32) (x3 : Int32) (S : MS), k33 x1 x2 x3 S = some Z → Go l (EM κ) RX12 cX12_findBest 6 none 8 194 0 0 none Z 33 [(0, .ref κ.o), (1, .int x1), (2, .int x2), (3, .int x3)] [] S) (x1 : Int32) (x2 : Int32) (x3 : Int32) (S : MS) (h : r_findBest_83 k33 x1 x2 x3 S = some Z) : Go l (EM κ) RX12 cX12_findBest 6 none 8 194 0 0 none Z 83 [(0, .ref κ.o), (1, .int x1), (2, .int x2), (3, .int x3)] [] S := by
  unfold r_findBest_83 at h
  refine Go.aload_n 0 dX12_findBest_83 rfl ?_
  refine GM.geta 34 19 (by decide) rfl fl_waitPage rfl dX12_findBest_84 ?_
  refine Go.iload_n 3 dX12_findBest_87 rfl ?_
  refine GM.iald 19 (by decide) rfl dX12_findBest_88 h (fun v2 h => ?_)
  refine Go.istore [(0, .ref κ.o), (1, .int x1), (2, .int x2), (3, .int x3), (5, .int v2)] dX12_findBest_89 (by decide) rfl ?_
  refine Go.aload_n 0 dX12_findBest_91 rfl ?_
  refine GM.geta 34 19 (by decide) rfl fl_waitPage rfl dX12_findBest_92 ?_
  refine Go.iload_n 3 dX12_findBest_95 rfl ?_
  refine Go.iconst (-1) dX12_findBest_96 (by decide) ?_
  refine GM.iast 19 (by decide) rfl dX12_findBest_97 h (fun S3 h => ?_)
  refine Go.aload_n 0 dX12_findBest_98 rfl ?_
  refine Go.iload 4 dX12_findBest_99 rfl ?_
  refine Go.aload_n 0 dX12_findBest_101 rfl ?_
  refine GM.geta 36 21 (by decide) rfl fl_waitFar rfl dX12_findBest_102 ?_
  refine Go.iload_n 3 dX12_findBest_105 rfl ?_
  refine GM.iald 21 (by decide) rfl dX12_findBest_106 h (fun v4 h => ?_)
  refine Go.iload_n 1 dX12_findBest_107 rfl ?_
  refine Go.iload_n 2 dX12_findBest_108 rfl ?_
  refine GM.callvu (rest := []) [.int v2, .int v4, .int x1, .int x2] dX12_findBest_109 ck_lookInto ci_lookInto (rt_lookInto _ _ _ _) rfl rfl (Nat.le_of_ble_eq_true rfl) (Nat.le_of_ble_eq_true rfl) (Nat.le_of_ble_eq_true rfl) h (fun S5 h => ?_)
  refine Go.aload_n 0 dX12_findBest_112 rfl ?_
  refine Go.iload_n 2 dX12_findBest_113 rfl ?_
  refine GM.callvr (rest := []) [.int x2] dX12_findBest_114 ck_nextWaiting ci_nextWaiting (rt_nextWaiting _) rfl rfl (Nat.le_of_ble_eq_true rfl) (Nat.le_of_ble_eq_true rfl) (Nat.le_of_ble_eq_true rfl) h (fun v6 h => ?_)
  refine Go.istore_n [(0, .ref κ.o), (1, .int x1), (2, .int x2), (3, .int v6), (5, .int v2)] dX12_findBest_117 (by decide) rfl ?_
  refine Go.goto 33 dX12_findBest_118 (by decide) ?_
  refine Go.sub [0, 1, 2, 3] rfl ?_
  exact h33 _ _ _ _ h
set_option maxRecDepth 20000 in
theorem rs_findBest_33 {l : Launch} {κ : KMt} {Z : MS} (n : Nat) : ∀ (x1 : Int32) (x2 : Int32) (x3 : Int32) (S : MS), r_findBest_33 n x1 x2 x3 S = some Z → Go l (EM κ) RX12 cX12_findBest 6 none 8 194 0 0 none Z 33 [(0, .ref κ.o), (1, .int x1), (2, .int x2), (3, .int x3)] [] S := by
  induction n with
  | zero => intro x1 x2 x3 S h; rw [r_findBest_33] at h; cases h
  | succ n ih =>
    intro x1 x2 x3 S h
    rw [r_findBest_33] at h
    refine Go.iload_n 3 dX12_findBest_33 rfl ?_
    refine Go.iconst (-1) dX12_findBest_34 (by decide) ?_
    refine Go.icmp_eq 121 dX12_findBest_35 (by decide) h (fun h => ?_) (fun h => ?_)
    · refine Go.sub [0, 1] rfl ?_
      exact rs_findBest_121 _ _ h
    · refine Go.aload_n 0 dX12_findBest_38 rfl ?_
      refine Go.iload_n 1 dX12_findBest_39 rfl ?_
      refine GM.callvr (rest := []) [.int x1] dX12_findBest_40 ck_limitOf ci_limitOf (rt_limitOf _) rfl rfl (Nat.le_of_ble_eq_true rfl) (Nat.le_of_ble_eq_true rfl) (Nat.le_of_ble_eq_true rfl) h (fun v7 h => ?_)
      refine Go.istore [(0, .ref κ.o), (1, .int x1), (2, .int x2), (3, .int x3), (4, .int v7)] dX12_findBest_43 (by decide) rfl ?_
      refine Go.iload 4 dX12_findBest_45 rfl ?_
      refine Go.iconst (-1) dX12_findBest_47 (by decide) ?_
      refine Go.icmp_eq 83 dX12_findBest_48 (by decide) h (fun h => ?_) (fun h => ?_)
      · refine Go.sub [0, 1, 2, 3] rfl ?_
        exact rs_findBest_83 _ ih _ _ _ _ h
      · refine Go.iload_n 2 dX12_findBest_51 rfl ?_
        refine Go.if_eq 69 dX12_findBest_52 (by decide) h (fun h => ?_) (fun h => ?_)
        · refine Go.aload_n 0 dX12_findBest_69 rfl ?_
          refine GM.geta 35 20 (by decide) rfl fl_waitBound rfl dX12_findBest_70 ?_
          refine Go.iload_n 3 dX12_findBest_73 rfl ?_
          refine GM.iald 20 (by decide) rfl dX12_findBest_74 h (fun v8 h => ?_)
          refine Go.iload 4 dX12_findBest_75 rfl ?_
          refine Go.icmp_le 83 dX12_findBest_77 (by decide) h (fun h => ?_) (fun h => ?_)
          · refine Go.sub [0, 1, 2, 3] rfl ?_
            exact rs_findBest_83 _ ih _ _ _ _ h
          · refine Go.goto 121 dX12_findBest_80 (by decide) ?_
            refine Go.sub [0, 1] rfl ?_
            exact rs_findBest_121 _ _ h
        · refine Go.aload_n 0 dX12_findBest_55 rfl ?_
          refine GM.geta 35 20 (by decide) rfl fl_waitBound rfl dX12_findBest_56 ?_
          refine Go.iload_n 3 dX12_findBest_59 rfl ?_
          refine GM.iald 20 (by decide) rfl dX12_findBest_60 h (fun v9 h => ?_)
          refine Go.iload 4 dX12_findBest_61 rfl ?_
          refine Go.icmp_ge 83 dX12_findBest_63 (by decide) h (fun h => ?_) (fun h => ?_)
          · refine Go.sub [0, 1, 2, 3] rfl ?_
            exact rs_findBest_83 _ ih _ _ _ _ h
          · refine Go.goto 121 dX12_findBest_66 (by decide) ?_
            refine Go.sub [0, 1] rfl ?_
            exact rs_findBest_121 _ _ h
set_option maxRecDepth 20000 in
theorem rs_findBest_23 {l : Launch} {κ : KMt} {Z : MS} (x1 : Int32) (x2 : Int32) (y1 : Int32) (y2 : Int32) (S : MS) (h : r_findBest_23 x1 x2 y1 y2 S = some Z) : Go l (EM κ) RX12 cX12_findBest 6 none 8 194 0 0 none Z 23 [(0, .ref κ.o), (1, .int x1), (2, .int x2)] [.int y2, .int y1, .ref κ.o] S := by
  unfold r_findBest_23 at h
  refine Go.iconst (-1) dX12_findBest_23 (by decide) ?_
  refine GM.callvu (rest := []) [.int y1, .int y2, .int (-1)] dX12_findBest_24 ck_queue ci_queue (rt_queue _ _ _) rfl rfl (Nat.le_of_ble_eq_true rfl) (Nat.le_of_ble_eq_true rfl) (Nat.le_of_ble_eq_true rfl) h (fun S10 h => ?_)
  refine Go.aload_n 0 dX12_findBest_27 rfl ?_
  refine Go.iload_n 2 dX12_findBest_28 rfl ?_
  refine GM.callvr (rest := []) [.int x2] dX12_findBest_29 ck_nextWaiting ci_nextWaiting (rt_nextWaiting _) rfl rfl (Nat.le_of_ble_eq_true rfl) (Nat.le_of_ble_eq_true rfl) (Nat.le_of_ble_eq_true rfl) h (fun v11 h => ?_)
  refine Go.istore_n [(0, .ref κ.o), (1, .int x1), (2, .int x2), (3, .int v11)] dX12_findBest_32 (by decide) rfl ?_
  exact rs_findBest_33 _ _ _ _ _ h
set_option maxRecDepth 20000 in
theorem rs_findBest {l : Launch} {κ : KMt} {S : MS} {Z : MS} (x1 : Int32) (x2 : Int32) (h : r_findBest S x1 x2 = some Z) : Go l (EM κ) RX12 cX12_findBest 6 none 8 194 0 0 none Z 0 [(0, .ref κ.o), (1, .int x1), (2, .int x2)] [] S := by
  unfold r_findBest at h
  refine Go.aload_n 0 dX12_findBest_0 rfl ?_
  refine Go.iconst 0 dX12_findBest_1 (by decide) ?_
  refine GM.puti 37 (by decide) rfl fl_waiting rfl rfl rfl rfl dX12_findBest_2 ?_
  refine Go.aload_n 0 dX12_findBest_5 rfl ?_
  refine Go.aload_n 0 dX12_findBest_6 rfl ?_
  refine GM.geta 0 0 (by decide) rfl fl_a rfl dX12_findBest_7 ?_
  refine Go.iconst 2 dX12_findBest_10 (by decide) ?_
  refine GM.iald 0 (by decide) rfl dX12_findBest_11 h (fun v12 h => ?_)
  refine Go.iload_n 2 dX12_findBest_12 rfl ?_
  refine Go.if_eq 22 dX12_findBest_13 (by decide) h (fun h => ?_) (fun h => ?_)
  · refine Go.iconst 0 dX12_findBest_22 (by decide) ?_
    exact rs_findBest_23 _ _ _ _ _ h
  · refine Go.sipush 1000 dX12_findBest_16 (by decide) ?_
    refine Go.goto 23 dX12_findBest_19 (by decide) ?_
    exact rs_findBest_23 _ _ _ _ _ h
set_option maxRecDepth 20000 in
theorem rt_findBest {l : Launch} {κ : KMt} {S : MS} (x1 : Int32) (x2 : Int32) : ∀ Z, r_findBest S x1 x2 = some Z → MtM l κ yX12_findBest cX12_findBest 6 none 8 194 [.ref κ.o, .int x1, .int x2] S none Z := fun Z h => MtM.of (by decide +kernel) rfl (Nat.le_of_ble_eq_true rfl) ⟨rfl, rfl, rfl, trivial⟩ (rs_findBest x1 x2 h)
/-! answer -/
def r_answer (S : MS) (x1 : Int32) : Option (Int32) := if x1 = (-1) then some (S.2 32) else (r_isIn S x1 0 ((S.2 32) - 1)).bind (fun v1 => if v1 = 0 then some (-1) else (rd S 18 x1).bind (fun v2 => some v2))
set_option maxRecDepth 20000 in
theorem rs_answer {l : Launch} {κ : KMt} {S : MS} {Z : Int32} (x1 : Int32) (h : r_answer S x1 = some Z) : Go l (EM κ) RX12 cX12_answer 2 (some .int) 1 22 0 0 (some (.int Z)) S 0 [(0, .ref κ.o), (1, .int x1)] [] S := by
  unfold r_answer at h
  refine Go.iload_n 1 dX12_answer_0 rfl ?_
  refine Go.iconst (-1) dX12_answer_1 (by decide) ?_
  refine Go.icmp_ne 12 dX12_answer_2 (by decide) h (fun h => ?_) (fun h => ?_)
  · refine Go.iload_n 1 dX12_answer_12 rfl ?_
    refine Go.iconst 0 dX12_answer_13 (by decide) ?_
    refine Go.aload_n 0 dX12_answer_14 rfl ?_
    refine GM.geti 32 (by decide) rfl fl_answered rfl dX12_answer_15 ?_
    refine Go.iconst 1 dX12_answer_18 (by decide) ?_
    refine Go.isub dX12_answer_19 ?_
    refine GM.callsr (rest := []) [.int x1, .int 0, .int ((S.2 32) - 1)] dX12_answer_20 ck_isIn ci_isIn (rt_isIn _ _ _) rfl rfl (Nat.le_of_ble_eq_true rfl) (Nat.le_of_ble_eq_true rfl) (Nat.le_of_ble_eq_true rfl) h (fun v1 h => ?_)
    refine Go.if_eq 35 dX12_answer_23 (by decide) h (fun h => ?_) (fun h => ?_)
    · refine Go.iconst (-1) dX12_answer_35 (by decide) ?_
      cases h
      exact Go.iret dX12_answer_36 rfl
    · refine Go.aload_n 0 dX12_answer_26 rfl ?_
      refine GM.geta 25 18 (by decide) rfl fl_found rfl dX12_answer_27 ?_
      refine Go.iload_n 1 dX12_answer_30 rfl ?_
      refine GM.iald 18 (by decide) rfl dX12_answer_31 h (fun v2 h => ?_)
      refine Go.goto 36 dX12_answer_32 (by decide) ?_
      cases h
      exact Go.iret dX12_answer_36 rfl
  · refine Go.aload_n 0 dX12_answer_5 rfl ?_
    refine GM.geti 32 (by decide) rfl fl_answered rfl dX12_answer_6 ?_
    refine Go.goto 36 dX12_answer_9 (by decide) ?_
    cases h
    exact Go.iret dX12_answer_36 rfl
set_option maxRecDepth 20000 in
theorem rt_answer {l : Launch} {κ : KMt} {S : MS} (x1 : Int32) : ∀ Z, r_answer S x1 = some Z → MtM l κ yX12_answer cX12_answer 2 (some .int) 1 22 [.ref κ.o, .int x1] S (some (.int Z)) S := fun Z h => MtM.of (by decide +kernel) rfl (Nat.le_of_ble_eq_true rfl) ⟨rfl, rfl, trivial⟩ (rs_answer x1 h)
/-! isFarNumber -/
def r_isFarNumber (S : MS) (x0 : Int32) : Option (Int32) := (r_isIn S x0 0 99).bind (fun v1 => zb v1)
set_option maxRecDepth 20000 in
theorem rs_isFarNumber {l : Launch} {κ : KMt} {S : MS} {Z : Int32} (x0 : Int32) (h : r_isFarNumber S x0 = some Z) : Go l (EM κ) RX12 cX12_isFarNumber 1 (some .boolean) 1 22 0 0 (some (.int Z)) S 0 [(0, .int x0)] [] S := by
  unfold r_isFarNumber at h
  refine Go.iload_n 0 dX12_isFarNumber_0 rfl ?_
  refine Go.iconst 0 dX12_isFarNumber_1 (by decide) ?_
  refine Go.bipush 99 dX12_isFarNumber_2 (by decide) ?_
  refine GM.callsr (rest := []) [.int x0, .int 0, .int 99] dX12_isFarNumber_4 ck_isIn ci_isIn (rt_isIn _ _ _) rfl rfl (Nat.le_of_ble_eq_true rfl) (Nat.le_of_ble_eq_true rfl) (Nat.le_of_ble_eq_true rfl) h (fun v1 h => ?_)
  exact Go.zret dX12_isFarNumber_7 rfl h
set_option maxRecDepth 20000 in
theorem rt_isFarNumber {l : Launch} {κ : KMt} {S : MS} (x0 : Int32) : ∀ Z, r_isFarNumber S x0 = some Z → MtM l κ yX12_isFarNumber cX12_isFarNumber 1 (some .boolean) 1 22 [.int x0] S (some (.int Z)) S := fun Z h => MtM.of (by decide +kernel) rfl (Nat.le_of_ble_eq_true rfl) ⟨rfl, trivial⟩ (rs_isFarNumber x0 h)
/-! isMany -/
def r_isMany (S : MS) (x0 : Int32) : Option (Int32) := (r_isIn S x0 1 40).bind (fun v1 => zb v1)
set_option maxRecDepth 20000 in
theorem rs_isMany {l : Launch} {κ : KMt} {S : MS} {Z : Int32} (x0 : Int32) (h : r_isMany S x0 = some Z) : Go l (EM κ) RX12 cX12_isMany 1 (some .boolean) 1 22 0 0 (some (.int Z)) S 0 [(0, .int x0)] [] S := by
  unfold r_isMany at h
  refine Go.iload_n 0 dX12_isMany_0 rfl ?_
  refine Go.iconst 1 dX12_isMany_1 (by decide) ?_
  refine Go.bipush 40 dX12_isMany_2 (by decide) ?_
  refine GM.callsr (rest := []) [.int x0, .int 1, .int 40] dX12_isMany_4 ck_isIn ci_isIn (rt_isIn _ _ _) rfl rfl (Nat.le_of_ble_eq_true rfl) (Nat.le_of_ble_eq_true rfl) (Nat.le_of_ble_eq_true rfl) h (fun v1 h => ?_)
  exact Go.zret dX12_isMany_7 rfl h
set_option maxRecDepth 20000 in
theorem rt_isMany {l : Launch} {κ : KMt} {S : MS} (x0 : Int32) : ∀ Z, r_isMany S x0 = some Z → MtM l κ yX12_isMany cX12_isMany 1 (some .boolean) 1 22 [.int x0] S (some (.int Z)) S := fun Z h => MtM.of (by decide +kernel) rfl (Nat.le_of_ble_eq_true rfl) ⟨rfl, trivial⟩ (rs_isMany x0 h)
/-! within -/
def r_within (S : MS) (x1 : Int32) (x2 : Int32) (x3 : Int32) : Option (Int32 × MS) := (r_isWord S x1).bind (fun v1 => if v1 = 0 then some ((-1), S) else (r_isFarNumber S x2).bind (fun v2 => if v2 = 0 then some ((-1), S) else (r_begin S x1 (-1)).bind (fun S3 => (r_findWithin S3 x2).bind (fun S4 => (r_answer S4 x3).bind (fun v5 => some (v5, S4))))))
set_option maxRecDepth 20000 in
theorem rs_within {l : Launch} {κ : KMt} {S : MS} {Z : Int32 × MS} (x1 : Int32) (x2 : Int32) (x3 : Int32) (h : r_within S x1 x2 x3 = some Z) : Go l (EM κ) RX12 cX12_within 4 (some .int) 8 190 0 0 (some (.int Z.1)) Z.2 0 [(0, .ref κ.o), (1, .int x1), (2, .int x2), (3, .int x3)] [] S := by
  unfold r_within at h
  refine Go.iload_n 1 dX12_within_0 rfl ?_
  refine GM.callsr (rest := []) [.int x1] dX12_within_1 ck_isWord ci_isWord (rt_isWord _) rfl rfl (Nat.le_of_ble_eq_true rfl) (Nat.le_of_ble_eq_true rfl) (Nat.le_of_ble_eq_true rfl) h (fun v1 h => ?_)
  refine Go.if_eq 14 dX12_within_4 (by decide) h (fun h => ?_) (fun h => ?_)
  · refine Go.iconst (-1) dX12_within_14 (by decide) ?_
    cases h
    exact Go.iret dX12_within_15 rfl
  · refine Go.iload_n 2 dX12_within_7 rfl ?_
    refine GM.callsr (rest := []) [.int x2] dX12_within_8 ck_isFarNumber ci_isFarNumber (rt_isFarNumber _) rfl rfl (Nat.le_of_ble_eq_true rfl) (Nat.le_of_ble_eq_true rfl) (Nat.le_of_ble_eq_true rfl) h (fun v2 h => ?_)
    refine Go.if_ne 16 dX12_within_11 (by decide) h (fun h => ?_) (fun h => ?_)
    · refine Go.aload_n 0 dX12_within_16 rfl ?_
      refine Go.iload_n 1 dX12_within_17 rfl ?_
      refine Go.iconst (-1) dX12_within_18 (by decide) ?_
      refine GM.callvu (rest := []) [.int x1, .int (-1)] dX12_within_19 ck_begin ci_begin (rt_begin _ _) rfl rfl (Nat.le_of_ble_eq_true rfl) (Nat.le_of_ble_eq_true rfl) (Nat.le_of_ble_eq_true rfl) h (fun S3 h => ?_)
      refine Go.aload_n 0 dX12_within_22 rfl ?_
      refine Go.iload_n 2 dX12_within_23 rfl ?_
      refine GM.callvu (rest := []) [.int x2] dX12_within_24 ck_findWithin ci_findWithin (rt_findWithin _) rfl rfl (Nat.le_of_ble_eq_true rfl) (Nat.le_of_ble_eq_true rfl) (Nat.le_of_ble_eq_true rfl) h (fun S4 h => ?_)
      refine Go.aload_n 0 dX12_within_27 rfl ?_
      refine Go.iload_n 3 dX12_within_28 rfl ?_
      refine GM.callvr (rest := []) [.int x3] dX12_within_29 ck_answer ci_answer (rt_answer _) rfl rfl (Nat.le_of_ble_eq_true rfl) (Nat.le_of_ble_eq_true rfl) (Nat.le_of_ble_eq_true rfl) h (fun v5 h => ?_)
      cases h
      exact Go.iret dX12_within_32 rfl
    · refine Go.iconst (-1) dX12_within_14 (by decide) ?_
      cases h
      exact Go.iret dX12_within_15 rfl
set_option maxRecDepth 20000 in
theorem rt_within {l : Launch} {κ : KMt} {S : MS} (x1 : Int32) (x2 : Int32) (x3 : Int32) : ∀ Z, r_within S x1 x2 x3 = some Z → MtM l κ yX12_within cX12_within 4 (some .int) 8 190 [.ref κ.o, .int x1, .int x2, .int x3] S (some (.int Z.1)) Z.2 := fun Z h => MtM.of (by decide +kernel) rfl (Nat.le_of_ble_eq_true rfl) ⟨rfl, rfl, rfl, rfl, trivial⟩ (rs_within x1 x2 x3 h)
/-! around -/
def r_around (S : MS) (x1 : Int32) (x2 : Int32) (x3 : Int32) : Option (Int32 × MS) := (r_isThing S x1).bind (fun v1 => if v1 = 0 then some ((-1), S) else (r_isFarNumber S x2).bind (fun v2 => if v2 = 0 then some ((-1), S) else (r_begin S 0 x1).bind (fun S3 => (r_findWithin S3 x2).bind (fun S4 => (r_answer S4 x3).bind (fun v5 => some (v5, S4))))))
set_option maxRecDepth 20000 in
theorem rs_around {l : Launch} {κ : KMt} {S : MS} {Z : Int32 × MS} (x1 : Int32) (x2 : Int32) (x3 : Int32) (h : r_around S x1 x2 x3 = some Z) : Go l (EM κ) RX12 cX12_around 4 (some .int) 8 190 0 0 (some (.int Z.1)) Z.2 0 [(0, .ref κ.o), (1, .int x1), (2, .int x2), (3, .int x3)] [] S := by
  unfold r_around at h
  refine Go.aload_n 0 dX12_around_0 rfl ?_
  refine Go.iload_n 1 dX12_around_1 rfl ?_
  refine GM.callvr (rest := []) [.int x1] dX12_around_2 ck_isThing ci_isThing (rt_isThing _) rfl rfl (Nat.le_of_ble_eq_true rfl) (Nat.le_of_ble_eq_true rfl) (Nat.le_of_ble_eq_true rfl) h (fun v1 h => ?_)
  refine Go.if_eq 15 dX12_around_5 (by decide) h (fun h => ?_) (fun h => ?_)
  · refine Go.iconst (-1) dX12_around_15 (by decide) ?_
    cases h
    exact Go.iret dX12_around_16 rfl
  · refine Go.iload_n 2 dX12_around_8 rfl ?_
    refine GM.callsr (rest := []) [.int x2] dX12_around_9 ck_isFarNumber ci_isFarNumber (rt_isFarNumber _) rfl rfl (Nat.le_of_ble_eq_true rfl) (Nat.le_of_ble_eq_true rfl) (Nat.le_of_ble_eq_true rfl) h (fun v2 h => ?_)
    refine Go.if_ne 17 dX12_around_12 (by decide) h (fun h => ?_) (fun h => ?_)
    · refine Go.aload_n 0 dX12_around_17 rfl ?_
      refine Go.iconst 0 dX12_around_18 (by decide) ?_
      refine Go.iload_n 1 dX12_around_19 rfl ?_
      refine GM.callvu (rest := []) [.int 0, .int x1] dX12_around_20 ck_begin ci_begin (rt_begin _ _) rfl rfl (Nat.le_of_ble_eq_true rfl) (Nat.le_of_ble_eq_true rfl) (Nat.le_of_ble_eq_true rfl) h (fun S3 h => ?_)
      refine Go.aload_n 0 dX12_around_23 rfl ?_
      refine Go.iload_n 2 dX12_around_24 rfl ?_
      refine GM.callvu (rest := []) [.int x2] dX12_around_25 ck_findWithin ci_findWithin (rt_findWithin _) rfl rfl (Nat.le_of_ble_eq_true rfl) (Nat.le_of_ble_eq_true rfl) (Nat.le_of_ble_eq_true rfl) h (fun S4 h => ?_)
      refine Go.aload_n 0 dX12_around_28 rfl ?_
      refine Go.iload_n 3 dX12_around_29 rfl ?_
      refine GM.callvr (rest := []) [.int x3] dX12_around_30 ck_answer ci_answer (rt_answer _) rfl rfl (Nat.le_of_ble_eq_true rfl) (Nat.le_of_ble_eq_true rfl) (Nat.le_of_ble_eq_true rfl) h (fun v5 h => ?_)
      cases h
      exact Go.iret dX12_around_33 rfl
    · refine Go.iconst (-1) dX12_around_15 (by decide) ?_
      cases h
      exact Go.iret dX12_around_16 rfl
set_option maxRecDepth 20000 in
theorem rt_around {l : Launch} {κ : KMt} {S : MS} (x1 : Int32) (x2 : Int32) (x3 : Int32) : ∀ Z, r_around S x1 x2 x3 = some Z → MtM l κ yX12_around cX12_around 4 (some .int) 8 190 [.ref κ.o, .int x1, .int x2, .int x3] S (some (.int Z.1)) Z.2 := fun Z h => MtM.of (by decide +kernel) rfl (Nat.le_of_ble_eq_true rfl) ⟨rfl, rfl, rfl, rfl, trivial⟩ (rs_around x1 x2 x3 h)
/-! near -/
def r_near (S : MS) (x1 : Int32) (x2 : Int32) (x3 : Int32) : Option (Int32 × MS) := (r_isWord S x1).bind (fun v1 => if v1 = 0 then some ((-1), S) else (r_isMany S x2).bind (fun v2 => if v2 = 0 then some ((-1), S) else (r_begin S x1 (-1)).bind (fun S3 => (r_findBest S3 x2 0).bind (fun S4 => (r_answer S4 x3).bind (fun v5 => some (v5, S4))))))
set_option maxRecDepth 20000 in
theorem rs_near {l : Launch} {κ : KMt} {S : MS} {Z : Int32 × MS} (x1 : Int32) (x2 : Int32) (x3 : Int32) (h : r_near S x1 x2 x3 = some Z) : Go l (EM κ) RX12 cX12_near 4 (some .int) 9 219 0 0 (some (.int Z.1)) Z.2 0 [(0, .ref κ.o), (1, .int x1), (2, .int x2), (3, .int x3)] [] S := by
  unfold r_near at h
  refine Go.iload_n 1 dX12_near_0 rfl ?_
  refine GM.callsr (rest := []) [.int x1] dX12_near_1 ck_isWord ci_isWord (rt_isWord _) rfl rfl (Nat.le_of_ble_eq_true rfl) (Nat.le_of_ble_eq_true rfl) (Nat.le_of_ble_eq_true rfl) h (fun v1 h => ?_)
  refine Go.if_eq 14 dX12_near_4 (by decide) h (fun h => ?_) (fun h => ?_)
  · refine Go.iconst (-1) dX12_near_14 (by decide) ?_
    cases h
    exact Go.iret dX12_near_15 rfl
  · refine Go.iload_n 2 dX12_near_7 rfl ?_
    refine GM.callsr (rest := []) [.int x2] dX12_near_8 ck_isMany ci_isMany (rt_isMany _) rfl rfl (Nat.le_of_ble_eq_true rfl) (Nat.le_of_ble_eq_true rfl) (Nat.le_of_ble_eq_true rfl) h (fun v2 h => ?_)
    refine Go.if_ne 16 dX12_near_11 (by decide) h (fun h => ?_) (fun h => ?_)
    · refine Go.aload_n 0 dX12_near_16 rfl ?_
      refine Go.iload_n 1 dX12_near_17 rfl ?_
      refine Go.iconst (-1) dX12_near_18 (by decide) ?_
      refine GM.callvu (rest := []) [.int x1, .int (-1)] dX12_near_19 ck_begin ci_begin (rt_begin _ _) rfl rfl (Nat.le_of_ble_eq_true rfl) (Nat.le_of_ble_eq_true rfl) (Nat.le_of_ble_eq_true rfl) h (fun S3 h => ?_)
      refine Go.aload_n 0 dX12_near_22 rfl ?_
      refine Go.iload_n 2 dX12_near_23 rfl ?_
      refine Go.iconst 0 dX12_near_24 (by decide) ?_
      refine GM.callvu (rest := []) [.int x2, .int 0] dX12_near_25 ck_findBest ci_findBest (rt_findBest _ _) rfl rfl (Nat.le_of_ble_eq_true rfl) (Nat.le_of_ble_eq_true rfl) (Nat.le_of_ble_eq_true rfl) h (fun S4 h => ?_)
      refine Go.aload_n 0 dX12_near_28 rfl ?_
      refine Go.iload_n 3 dX12_near_29 rfl ?_
      refine GM.callvr (rest := []) [.int x3] dX12_near_30 ck_answer ci_answer (rt_answer _) rfl rfl (Nat.le_of_ble_eq_true rfl) (Nat.le_of_ble_eq_true rfl) (Nat.le_of_ble_eq_true rfl) h (fun v5 h => ?_)
      cases h
      exact Go.iret dX12_near_33 rfl
    · refine Go.iconst (-1) dX12_near_14 (by decide) ?_
      cases h
      exact Go.iret dX12_near_15 rfl
set_option maxRecDepth 20000 in
theorem rt_near {l : Launch} {κ : KMt} {S : MS} (x1 : Int32) (x2 : Int32) (x3 : Int32) : ∀ Z, r_near S x1 x2 x3 = some Z → MtM l κ yX12_near cX12_near 4 (some .int) 9 219 [.ref κ.o, .int x1, .int x2, .int x3] S (some (.int Z.1)) Z.2 := fun Z h => MtM.of (by decide +kernel) rfl (Nat.le_of_ble_eq_true rfl) ⟨rfl, rfl, rfl, rfl, trivial⟩ (rs_near x1 x2 x3 h)
/-! beside -/
def r_beside (S : MS) (x1 : Int32) (x2 : Int32) (x3 : Int32) : Option (Int32 × MS) := (r_isThing S x1).bind (fun v1 => if v1 = 0 then some ((-1), S) else (r_isMany S x2).bind (fun v2 => if v2 = 0 then some ((-1), S) else (r_begin S 0 x1).bind (fun S3 => (r_findBest S3 x2 0).bind (fun S4 => (r_answer S4 x3).bind (fun v5 => some (v5, S4))))))
set_option maxRecDepth 20000 in
theorem rs_beside {l : Launch} {κ : KMt} {S : MS} {Z : Int32 × MS} (x1 : Int32) (x2 : Int32) (x3 : Int32) (h : r_beside S x1 x2 x3 = some Z) : Go l (EM κ) RX12 cX12_beside 4 (some .int) 9 219 0 0 (some (.int Z.1)) Z.2 0 [(0, .ref κ.o), (1, .int x1), (2, .int x2), (3, .int x3)] [] S := by
  unfold r_beside at h
  refine Go.aload_n 0 dX12_beside_0 rfl ?_
  refine Go.iload_n 1 dX12_beside_1 rfl ?_
  refine GM.callvr (rest := []) [.int x1] dX12_beside_2 ck_isThing ci_isThing (rt_isThing _) rfl rfl (Nat.le_of_ble_eq_true rfl) (Nat.le_of_ble_eq_true rfl) (Nat.le_of_ble_eq_true rfl) h (fun v1 h => ?_)
  refine Go.if_eq 15 dX12_beside_5 (by decide) h (fun h => ?_) (fun h => ?_)
  · refine Go.iconst (-1) dX12_beside_15 (by decide) ?_
    cases h
    exact Go.iret dX12_beside_16 rfl
  · refine Go.iload_n 2 dX12_beside_8 rfl ?_
    refine GM.callsr (rest := []) [.int x2] dX12_beside_9 ck_isMany ci_isMany (rt_isMany _) rfl rfl (Nat.le_of_ble_eq_true rfl) (Nat.le_of_ble_eq_true rfl) (Nat.le_of_ble_eq_true rfl) h (fun v2 h => ?_)
    refine Go.if_ne 17 dX12_beside_12 (by decide) h (fun h => ?_) (fun h => ?_)
    · refine Go.aload_n 0 dX12_beside_17 rfl ?_
      refine Go.iconst 0 dX12_beside_18 (by decide) ?_
      refine Go.iload_n 1 dX12_beside_19 rfl ?_
      refine GM.callvu (rest := []) [.int 0, .int x1] dX12_beside_20 ck_begin ci_begin (rt_begin _ _) rfl rfl (Nat.le_of_ble_eq_true rfl) (Nat.le_of_ble_eq_true rfl) (Nat.le_of_ble_eq_true rfl) h (fun S3 h => ?_)
      refine Go.aload_n 0 dX12_beside_23 rfl ?_
      refine Go.iload_n 2 dX12_beside_24 rfl ?_
      refine Go.iconst 0 dX12_beside_25 (by decide) ?_
      refine GM.callvu (rest := []) [.int x2, .int 0] dX12_beside_26 ck_findBest ci_findBest (rt_findBest _ _) rfl rfl (Nat.le_of_ble_eq_true rfl) (Nat.le_of_ble_eq_true rfl) (Nat.le_of_ble_eq_true rfl) h (fun S4 h => ?_)
      refine Go.aload_n 0 dX12_beside_29 rfl ?_
      refine Go.iload_n 3 dX12_beside_30 rfl ?_
      refine GM.callvr (rest := []) [.int x3] dX12_beside_31 ck_answer ci_answer (rt_answer _) rfl rfl (Nat.le_of_ble_eq_true rfl) (Nat.le_of_ble_eq_true rfl) (Nat.le_of_ble_eq_true rfl) h (fun v5 h => ?_)
      cases h
      exact Go.iret dX12_beside_34 rfl
    · refine Go.iconst (-1) dX12_beside_15 (by decide) ?_
      cases h
      exact Go.iret dX12_beside_16 rfl
set_option maxRecDepth 20000 in
theorem rt_beside {l : Launch} {κ : KMt} {S : MS} (x1 : Int32) (x2 : Int32) (x3 : Int32) : ∀ Z, r_beside S x1 x2 x3 = some Z → MtM l κ yX12_beside cX12_beside 4 (some .int) 9 219 [.ref κ.o, .int x1, .int x2, .int x3] S (some (.int Z.1)) Z.2 := fun Z h => MtM.of (by decide +kernel) rfl (Nat.le_of_ble_eq_true rfl) ⟨rfl, rfl, rfl, rfl, trivial⟩ (rs_beside x1 x2 x3 h)
/-! farthest -/
def r_farthest (S : MS) (x1 : Int32) (x2 : Int32) (x3 : Int32) : Option (Int32 × MS) := (r_isWord S x1).bind (fun v1 => if v1 = 0 then some ((-1), S) else (r_isMany S x2).bind (fun v2 => if v2 = 0 then some ((-1), S) else (r_begin S x1 (-1)).bind (fun S3 => (r_findBest S3 x2 1).bind (fun S4 => (r_answer S4 x3).bind (fun v5 => some (v5, S4))))))
set_option maxRecDepth 20000 in
theorem rs_farthest {l : Launch} {κ : KMt} {S : MS} {Z : Int32 × MS} (x1 : Int32) (x2 : Int32) (x3 : Int32) (h : r_farthest S x1 x2 x3 = some Z) : Go l (EM κ) RX12 cX12_farthest 4 (some .int) 9 219 0 0 (some (.int Z.1)) Z.2 0 [(0, .ref κ.o), (1, .int x1), (2, .int x2), (3, .int x3)] [] S := by
  unfold r_farthest at h
  refine Go.iload_n 1 dX12_farthest_0 rfl ?_
  refine GM.callsr (rest := []) [.int x1] dX12_farthest_1 ck_isWord ci_isWord (rt_isWord _) rfl rfl (Nat.le_of_ble_eq_true rfl) (Nat.le_of_ble_eq_true rfl) (Nat.le_of_ble_eq_true rfl) h (fun v1 h => ?_)
  refine Go.if_eq 14 dX12_farthest_4 (by decide) h (fun h => ?_) (fun h => ?_)
  · refine Go.iconst (-1) dX12_farthest_14 (by decide) ?_
    cases h
    exact Go.iret dX12_farthest_15 rfl
  · refine Go.iload_n 2 dX12_farthest_7 rfl ?_
    refine GM.callsr (rest := []) [.int x2] dX12_farthest_8 ck_isMany ci_isMany (rt_isMany _) rfl rfl (Nat.le_of_ble_eq_true rfl) (Nat.le_of_ble_eq_true rfl) (Nat.le_of_ble_eq_true rfl) h (fun v2 h => ?_)
    refine Go.if_ne 16 dX12_farthest_11 (by decide) h (fun h => ?_) (fun h => ?_)
    · refine Go.aload_n 0 dX12_farthest_16 rfl ?_
      refine Go.iload_n 1 dX12_farthest_17 rfl ?_
      refine Go.iconst (-1) dX12_farthest_18 (by decide) ?_
      refine GM.callvu (rest := []) [.int x1, .int (-1)] dX12_farthest_19 ck_begin ci_begin (rt_begin _ _) rfl rfl (Nat.le_of_ble_eq_true rfl) (Nat.le_of_ble_eq_true rfl) (Nat.le_of_ble_eq_true rfl) h (fun S3 h => ?_)
      refine Go.aload_n 0 dX12_farthest_22 rfl ?_
      refine Go.iload_n 2 dX12_farthest_23 rfl ?_
      refine Go.iconst 1 dX12_farthest_24 (by decide) ?_
      refine GM.callvu (rest := []) [.int x2, .int 1] dX12_farthest_25 ck_findBest ci_findBest (rt_findBest _ _) rfl rfl (Nat.le_of_ble_eq_true rfl) (Nat.le_of_ble_eq_true rfl) (Nat.le_of_ble_eq_true rfl) h (fun S4 h => ?_)
      refine Go.aload_n 0 dX12_farthest_28 rfl ?_
      refine Go.iload_n 3 dX12_farthest_29 rfl ?_
      refine GM.callvr (rest := []) [.int x3] dX12_farthest_30 ck_answer ci_answer (rt_answer _) rfl rfl (Nat.le_of_ble_eq_true rfl) (Nat.le_of_ble_eq_true rfl) (Nat.le_of_ble_eq_true rfl) h (fun v5 h => ?_)
      cases h
      exact Go.iret dX12_farthest_33 rfl
    · refine Go.iconst (-1) dX12_farthest_14 (by decide) ?_
      cases h
      exact Go.iret dX12_farthest_15 rfl
set_option maxRecDepth 20000 in
theorem rt_farthest {l : Launch} {κ : KMt} {S : MS} (x1 : Int32) (x2 : Int32) (x3 : Int32) : ∀ Z, r_farthest S x1 x2 x3 = some Z → MtM l κ yX12_farthest cX12_farthest 4 (some .int) 9 219 [.ref κ.o, .int x1, .int x2, .int x3] S (some (.int Z.1)) Z.2 := fun Z h => MtM.of (by decide +kernel) rfl (Nat.le_of_ble_eq_true rfl) ⟨rfl, rfl, rfl, rfl, trivial⟩ (rs_farthest x1 x2 x3 h)
/-! cost -/
def r_cost (S : MS) (x1 : Int32) : Option (Int32) := if (S.2 33) = 0 then some (-1) else if x1 = 0 then some (S.2 27) else if x1 = 1 then some (S.2 28) else if x1 = 2 then some (S.2 29) else if x1 = 3 then some (S.2 32) else some (-1)
set_option maxRecDepth 20000 in
theorem rs_cost {l : Launch} {κ : KMt} {S : MS} {Z : Int32} (x1 : Int32) (h : r_cost S x1 = some Z) : Go l (EM κ) RX12 cX12_cost 2 (some .int) 0 0 0 0 (some (.int Z)) S 0 [(0, .ref κ.o), (1, .int x1)] [] S := by
  unfold r_cost at h
  refine Go.aload_n 0 dX12_cost_0 rfl ?_
  refine GM.geti 33 (by decide) rfl fl_isAsked rfl dX12_cost_1 ?_
  refine Go.if_ne 9 dX12_cost_4 (by decide) h (fun h => ?_) (fun h => ?_)
  · refine Go.iload_n 1 dX12_cost_9 rfl ?_
    by_cases cc0 : x1 = 0
    · rw [if_pos cc0] at h
      refine Go.tabIn 40 0 cc0 dX12_cost_10 (by decide) (by decide) rfl (by decide) ?_
      refine Go.aload_n 0 dX12_cost_40 rfl ?_
      refine GM.geti 27 (by decide) rfl fl_costs rfl dX12_cost_41 ?_
      cases h
      exact Go.iret dX12_cost_44 rfl
    rw [if_neg cc0] at h
    by_cases cc1 : x1 = 1
    · rw [if_pos cc1] at h
      refine Go.tabIn 45 1 cc1 dX12_cost_10 (by decide) (by decide) rfl (by decide) ?_
      refine Go.aload_n 0 dX12_cost_45 rfl ?_
      refine GM.geti 28 (by decide) rfl fl_spared rfl dX12_cost_46 ?_
      cases h
      exact Go.iret dX12_cost_49 rfl
    rw [if_neg cc1] at h
    by_cases cc2 : x1 = 2
    · rw [if_pos cc2] at h
      refine Go.tabIn 50 2 cc2 dX12_cost_10 (by decide) (by decide) rfl (by decide) ?_
      refine Go.aload_n 0 dX12_cost_50 rfl ?_
      refine GM.geti 29 (by decide) rfl fl_looked rfl dX12_cost_51 ?_
      cases h
      exact Go.iret dX12_cost_54 rfl
    rw [if_neg cc2] at h
    by_cases cc3 : x1 = 3
    · rw [if_pos cc3] at h
      refine Go.tabIn 55 3 cc3 dX12_cost_10 (by decide) (by decide) rfl (by decide) ?_
      refine Go.aload_n 0 dX12_cost_55 rfl ?_
      refine GM.geti 32 (by decide) rfl fl_answered rfl dX12_cost_56 ?_
      cases h
      exact Go.iret dX12_cost_59 rfl
    rw [if_neg cc3] at h
    refine Go.tabOut 60 dX12_cost_10 (sw_out (0) 4 (by decide) (fun k hk => match k, hk with | 0, _ => cc0 | 1, _ => cc1 | 2, _ => cc2 | 3, _ => cc3 | (k + 4), hk => absurd hk (by omega)) _ rfl) (by decide) ?_
    refine Go.iconst (-1) dX12_cost_60 (by decide) ?_
    cases h
    exact Go.iret dX12_cost_61 rfl
  · refine Go.iconst (-1) dX12_cost_7 (by decide) ?_
    cases h
    exact Go.iret dX12_cost_8 rfl
set_option maxRecDepth 20000 in
theorem rt_cost {l : Launch} {κ : KMt} {S : MS} (x1 : Int32) : ∀ Z, r_cost S x1 = some Z → MtM l κ yX12_cost cX12_cost 2 (some .int) 0 0 [.ref κ.o, .int x1] S (some (.int Z)) S := fun Z h => MtM.of (by decide +kernel) rfl (Nat.le_of_ble_eq_true rfl) ⟨rfl, rfl, trivial⟩ (rs_cost x1 h)
