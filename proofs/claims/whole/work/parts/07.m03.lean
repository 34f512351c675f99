/-! forgetTold -/
def r_forgetTold_105  : Nat → Int32 → Int32 → MS → Option (MS)
  | 0, _, _, _ => none
  | n + 1, x2, x3, S => (rd S 0 5).bind (fun v1 => if (3 * v1) ≤ x3 then (wr S 0 5 x2).bind (fun S2 => some S2) else (wr S 0 (46 + x3) 0).bind (fun S3 => r_forgetTold_105 n x2 (x3 + 1) S3))
def r_forgetTold_95 (k4 : Int32 → Int32 → Int32 → MS → Option (MS)) (x1 : Int32) (x2 : Int32) (x3 : Int32) (S : MS) : Option (MS) := k4 x1 x2 (x3 + 1) S
def r_forgetTold_52 (k4 : Int32 → Int32 → Int32 → MS → Option (MS)) : Nat → Int32 → Int32 → Int32 → Int32 → MS → Option (MS)
  | 0, _, _, _, _, _ => none
  | n + 1, x1, x2, x3, x4, S => if 3 ≤ x4 then r_forgetTold_95 k4 x1 (x2 + 1) x3 S else (rd S 0 ((46 + (3 * x3)) + x4)).bind (fun v4 => (wr S 0 ((46 + (3 * x2)) + x4) v4).bind (fun S5 => r_forgetTold_52 k4 n x1 x2 x3 (x4 + 1) S5))
def r_forgetTold_4  : Nat → Int32 → Int32 → Int32 → MS → Option (MS)
  | 0, _, _, _, _ => none
  | n + 1, x1, x2, x3, S => (rd S 0 5).bind (fun v6 => if v6 ≤ x3 then r_forgetTold_105 FU x2 (3 * x2) S else (rd S 0 (46 + (3 * x3))).bind (fun v7 => if v7 = x1 then r_forgetTold_95 (r_forgetTold_4 n) x1 x2 x3 S else (rd S 0 ((46 + (3 * x3)) + 1)).bind (fun v8 => if v8 = x1 then r_forgetTold_95 (r_forgetTold_4 n) x1 x2 x3 S else r_forgetTold_52 (r_forgetTold_4 n) FU x1 x2 x3 0 S)))
def r_forgetTold (S : MS) (x1 : Int32) : Option (MS) := r_forgetTold_4 FU x1 0 0 S
set_option maxRecDepth 20000 in
theorem rs_forgetTold_105 {l : Launch} {κ : KMt} {Z : MS} (n : Nat) : ∀ (x2 : Int32) (x3 : Int32) (S : MS), r_forgetTold_105 n x2 x3 S = some Z → Go l (EM κ) RX12 cX12_forgetTold 5 none 0 0 0 0 none Z 105 [(0, .ref κ.o), (2, .int x2), (3, .int x3)] [] S := by
  induction n with
  | zero => intro x2 x3 S h; rw [r_forgetTold_105] at h; cases h
  | succ n ih =>
    intro x2 x3 S h
    rw [r_forgetTold_105] at h
    refine Go.iload_n 2 dX12_forgetTold_105 rfl ?_
    refine Go.iconst 3 dX12_forgetTold_106 (by decide) ?_
    refine Go.aload_n 0 dX12_forgetTold_107 rfl ?_
    refine GM.geta 0 0 (by decide) rfl fl_a rfl dX12_forgetTold_108 ?_
    refine Go.iconst 5 dX12_forgetTold_111 (by decide) ?_
    refine GM.iald 0 (by decide) rfl dX12_forgetTold_112 h (fun v1 h => ?_)
    refine Go.imul dX12_forgetTold_113 ?_
    refine Go.icmp_ge 133 dX12_forgetTold_114 (by decide) h (fun h => ?_) (fun h => ?_)
    · refine Go.aload_n 0 dX12_forgetTold_133 rfl ?_
      refine GM.geta 0 0 (by decide) rfl fl_a rfl dX12_forgetTold_134 ?_
      refine Go.iconst 5 dX12_forgetTold_137 (by decide) ?_
      refine Go.iload_n 1 dX12_forgetTold_138 rfl ?_
      refine GM.iast 0 (by decide) rfl dX12_forgetTold_139 h (fun S2 h => ?_)
      cases h
      exact Go.vret dX12_forgetTold_140 rfl
    · refine Go.aload_n 0 dX12_forgetTold_117 rfl ?_
      refine GM.geta 0 0 (by decide) rfl fl_a rfl dX12_forgetTold_118 ?_
      refine Go.bipush 46 dX12_forgetTold_121 (by decide) ?_
      refine Go.iload_n 2 dX12_forgetTold_123 rfl ?_
      refine Go.iadd dX12_forgetTold_124 ?_
      refine Go.iconst 0 dX12_forgetTold_125 (by decide) ?_
      refine GM.iast 0 (by decide) rfl dX12_forgetTold_126 h (fun S3 h => ?_)
      refine Go.iinc (w := 1) 2 [(0, .ref κ.o), (2, .int x2), (3, .int (x3 + 1))] dX12_forgetTold_127 rfl (by decide) (by decide) rfl ?_
      refine Go.goto 105 dX12_forgetTold_130 (by decide) ?_
      exact ih _ _ _ h
set_option maxRecDepth 20000 in
theorem rs_forgetTold_95 {l : Launch} {κ : KMt} {Z : MS} (k4 : Int32 → Int32 → Int32 → MS → Option (MS)) (h4 : ∀ (x1 : Int32) (x2 : Int32) (x3 : Int32) (S : MS), k4 x1 x2 x3 S = some Z → Go l (EM κ) RX12 cX12_forgetTold 5 none 0 0 0 0 none Z 4 [(0, .ref κ.o), (1, .int x1), (2, .int x2), (3, .int x3)] [] S) (x1 : Int32) (x2 : Int32) (x3 : Int32) (S : MS) (h : r_forgetTold_95 k4 x1 x2 x3 S = some Z) : Go l (EM κ) RX12 cX12_forgetTold 5 none 0 0 0 0 none Z 95 [(0, .ref κ.o), (1, .int x1), (2, .int x2), (3, .int x3)] [] S := by
  unfold r_forgetTold_95 at h
  refine Go.iinc (w := 1) 3 [(0, .ref κ.o), (1, .int x1), (2, .int x2), (3, .int (x3 + 1))] dX12_forgetTold_95 rfl (by decide) (by decide) rfl ?_
  refine Go.goto 4 dX12_forgetTold_98 (by decide) ?_
  exact h4 _ _ _ _ h
set_option maxRecDepth 20000 in
theorem rs_forgetTold_52 {l : Launch} {κ : KMt} {Z : MS} (k4 : Int32 → Int32 → Int32 → MS → Option (MS)) (h4 : ∀ (x1 : Int32) (x2 : Int32) (x3 : Int32) (S : MS), k4 x1 x2 x3 S = some Z → Go l (EM κ) RX12 cX12_forgetTold 5 none 0 0 0 0 none Z 4 [(0, .ref κ.o), (1, .int x1), (2, .int x2), (3, .int x3)] [] S) (n : Nat) : ∀ (x1 : Int32) (x2 : Int32) (x3 : Int32) (x4 : Int32) (S : MS), r_forgetTold_52 k4 n x1 x2 x3 x4 S = some Z → Go l (EM κ) RX12 cX12_forgetTold 5 none 0 0 0 0 none Z 52 [(0, .ref κ.o), (1, .int x1), (2, .int x2), (3, .int x3), (4, .int x4)] [] S := by
  induction n with
  | zero => intro x1 x2 x3 x4 S h; rw [r_forgetTold_52] at h; cases h
  | succ n ih =>
    intro x1 x2 x3 x4 S h
    rw [r_forgetTold_52] at h
    refine Go.iload 4 dX12_forgetTold_52 rfl ?_
    refine Go.iconst 3 dX12_forgetTold_54 (by decide) ?_
    refine Go.icmp_ge 92 dX12_forgetTold_55 (by decide) h (fun h => ?_) (fun h => ?_)
    · refine Go.iinc (w := 1) 2 [(0, .ref κ.o), (1, .int x1), (2, .int (x2 + 1)), (3, .int x3), (4, .int x4)] dX12_forgetTold_92 rfl (by decide) (by decide) rfl ?_
      refine Go.sub [0, 1, 2, 3] rfl ?_
      exact rs_forgetTold_95 _ h4 _ _ _ _ h
    · refine Go.aload_n 0 dX12_forgetTold_58 rfl ?_
      refine GM.geta 0 0 (by decide) rfl fl_a rfl dX12_forgetTold_59 ?_
      refine Go.bipush 46 dX12_forgetTold_62 (by decide) ?_
      refine Go.iconst 3 dX12_forgetTold_64 (by decide) ?_
      refine Go.iload_n 2 dX12_forgetTold_65 rfl ?_
      refine Go.imul dX12_forgetTold_66 ?_
      refine Go.iadd dX12_forgetTold_67 ?_
      refine Go.iload 4 dX12_forgetTold_68 rfl ?_
      refine Go.iadd dX12_forgetTold_70 ?_
      refine Go.aload_n 0 dX12_forgetTold_71 rfl ?_
      refine GM.geta 0 0 (by decide) rfl fl_a rfl dX12_forgetTold_72 ?_
      refine Go.bipush 46 dX12_forgetTold_75 (by decide) ?_
      refine Go.iconst 3 dX12_forgetTold_77 (by decide) ?_
      refine Go.iload_n 3 dX12_forgetTold_78 rfl ?_
      refine Go.imul dX12_forgetTold_79 ?_
      refine Go.iadd dX12_forgetTold_80 ?_
      refine Go.iload 4 dX12_forgetTold_81 rfl ?_
      refine Go.iadd dX12_forgetTold_83 ?_
      refine GM.iald 0 (by decide) rfl dX12_forgetTold_84 h (fun v4 h => ?_)
      refine GM.iast 0 (by decide) rfl dX12_forgetTold_85 h (fun S5 h => ?_)
      refine Go.iinc (w := 1) 4 [(0, .ref κ.o), (1, .int x1), (2, .int x2), (3, .int x3), (4, .int (x4 + 1))] dX12_forgetTold_86 rfl (by decide) (by decide) rfl ?_
      refine Go.goto 52 dX12_forgetTold_89 (by decide) ?_
      exact ih _ _ _ _ _ h
set_option maxRecDepth 20000 in
theorem rs_forgetTold_4 {l : Launch} {κ : KMt} {Z : MS} (n : Nat) : ∀ (x1 : Int32) (x2 : Int32) (x3 : Int32) (S : MS), r_forgetTold_4 n x1 x2 x3 S = some Z → Go l (EM κ) RX12 cX12_forgetTold 5 none 0 0 0 0 none Z 4 [(0, .ref κ.o), (1, .int x1), (2, .int x2), (3, .int x3)] [] S := by
  induction n with
  | zero => intro x1 x2 x3 S h; rw [r_forgetTold_4] at h; cases h
  | succ n ih =>
    intro x1 x2 x3 S h
    rw [r_forgetTold_4] at h
    refine Go.iload_n 3 dX12_forgetTold_4 rfl ?_
    refine Go.aload_n 0 dX12_forgetTold_5 rfl ?_
    refine GM.geta 0 0 (by decide) rfl fl_a rfl dX12_forgetTold_6 ?_
    refine Go.iconst 5 dX12_forgetTold_9 (by decide) ?_
    refine GM.iald 0 (by decide) rfl dX12_forgetTold_10 h (fun v6 h => ?_)
    refine Go.icmp_ge 101 dX12_forgetTold_11 (by decide) h (fun h => ?_) (fun h => ?_)
    · refine Go.iconst 3 dX12_forgetTold_101 (by decide) ?_
      refine Go.iload_n 2 dX12_forgetTold_102 rfl ?_
      refine Go.imul dX12_forgetTold_103 ?_
      refine Go.istore_n [(0, .ref κ.o), (1, .int x1), (2, .int x2), (3, .int (3 * x2))] dX12_forgetTold_104 (by decide) rfl ?_
      refine Go.sub [0, 2, 3] rfl ?_
      exact rs_forgetTold_105 _ _ _ _ h
    · refine Go.aload_n 0 dX12_forgetTold_14 rfl ?_
      refine GM.geta 0 0 (by decide) rfl fl_a rfl dX12_forgetTold_15 ?_
      refine Go.bipush 46 dX12_forgetTold_18 (by decide) ?_
      refine Go.iconst 3 dX12_forgetTold_20 (by decide) ?_
      refine Go.iload_n 3 dX12_forgetTold_21 rfl ?_
      refine Go.imul dX12_forgetTold_22 ?_
      refine Go.iadd dX12_forgetTold_23 ?_
      refine GM.iald 0 (by decide) rfl dX12_forgetTold_24 h (fun v7 h => ?_)
      refine Go.iload_n 1 dX12_forgetTold_25 rfl ?_
      refine Go.icmp_eq 95 dX12_forgetTold_26 (by decide) h (fun h => ?_) (fun h => ?_)
      · exact rs_forgetTold_95 _ ih _ _ _ _ h
      · refine Go.aload_n 0 dX12_forgetTold_29 rfl ?_
        refine GM.geta 0 0 (by decide) rfl fl_a rfl dX12_forgetTold_30 ?_
        refine Go.bipush 46 dX12_forgetTold_33 (by decide) ?_
        refine Go.iconst 3 dX12_forgetTold_35 (by decide) ?_
        refine Go.iload_n 3 dX12_forgetTold_36 rfl ?_
        refine Go.imul dX12_forgetTold_37 ?_
        refine Go.iadd dX12_forgetTold_38 ?_
        refine Go.iconst 1 dX12_forgetTold_39 (by decide) ?_
        refine Go.iadd dX12_forgetTold_40 ?_
        refine GM.iald 0 (by decide) rfl dX12_forgetTold_41 h (fun v8 h => ?_)
        refine Go.iload_n 1 dX12_forgetTold_42 rfl ?_
        refine Go.icmp_ne 49 dX12_forgetTold_43 (by decide) h (fun h => ?_) (fun h => ?_)
        · refine Go.iconst 0 dX12_forgetTold_49 (by decide) ?_
          refine Go.istore [(0, .ref κ.o), (1, .int x1), (2, .int x2), (3, .int x3), (4, .int 0)] dX12_forgetTold_50 (by decide) rfl ?_
          exact rs_forgetTold_52 _ ih _ _ _ _ _ _ h
        · refine Go.goto 95 dX12_forgetTold_46 (by decide) ?_
          exact rs_forgetTold_95 _ ih _ _ _ _ h
set_option maxRecDepth 20000 in
theorem rs_forgetTold {l : Launch} {κ : KMt} {S : MS} {Z : MS} (x1 : Int32) (h : r_forgetTold S x1 = some Z) : Go l (EM κ) RX12 cX12_forgetTold 5 none 0 0 0 0 none Z 0 [(0, .ref κ.o), (1, .int x1)] [] S := by
  unfold r_forgetTold at h
  refine Go.iconst 0 dX12_forgetTold_0 (by decide) ?_
  refine Go.istore_n [(0, .ref κ.o), (1, .int x1), (2, .int 0)] dX12_forgetTold_1 (by decide) rfl ?_
  refine Go.iconst 0 dX12_forgetTold_2 (by decide) ?_
  refine Go.istore_n [(0, .ref κ.o), (1, .int x1), (2, .int 0), (3, .int 0)] dX12_forgetTold_3 (by decide) rfl ?_
  exact rs_forgetTold_4 _ _ _ _ _ h
set_option maxRecDepth 20000 in
theorem rt_forgetTold {l : Launch} {κ : KMt} {S : MS} (x1 : Int32) : ∀ Z, r_forgetTold S x1 = some Z → MtM l κ yX12_forgetTold cX12_forgetTold 5 none 0 0 [.ref κ.o, .int x1] S none Z := fun Z h => MtM.of (by decide +kernel) rfl (Nat.le_of_ble_eq_true rfl) ⟨rfl, rfl, trivial⟩ (rs_forgetTold x1 h)
/-! takeOut -/
def r_takeOut_122 (k62 : MS → Option (MS)) : Nat → Int32 → Int32 → MS → Option (MS)
  | 0, _, _, _ => none
  | n + 1, x3, x4, S => (r_countOf S x3).bind (fun v1 => if v1 ≤ x4 then k62 S else (r_letEntry S x3 x4 2 0).bind (fun S2 => r_takeOut_122 k62 n x3 (x4 + 1) S2))
def r_takeOut_62  : Nat → MS → Option (MS)
  | 0, _ => none
  | n + 1, S => (rd S 0 2).bind (fun v3 => (r_isLeaf S v3).bind (fun v4 => if v4 = 0 then (rd S 0 2).bind (fun v5 => (r_countOf S v5).bind (fun v6 => if v6 = 1 then (rd S 0 2).bind (fun v7 => (r_entryOf S v7 0 3).bind (fun v8 => (rd S 0 2).bind (fun v9 => (r_freePage S v9).bind (fun S10 => (wr S10 0 2 v8).bind (fun S11 => r_takeOut_122 (r_takeOut_62 n) FU v8 0 S11))))) else some S)) else some S))
def r_takeOut_17  : Nat → Int32 → MS → Option (MS)
  | 0, _, _ => none
  | n + 1, x2, S => (r_countOf S x2).bind (fun v12 => if v12 = 0 then (rd S 0 2).bind (fun v13 => if x2 = v13 then r_takeOut_62 FU S else bd2 (r_holderOf S 3 x2 0) (fun v14 S15 => (r_remove S15 v14 (S15.2 14)).bind (fun S16 => (r_freePage S16 x2).bind (fun S17 => r_takeOut_17 n v14 S17)))) else r_takeOut_62 FU S)
def r_takeOut (S : MS) (x1 : Int32) : Option (MS) := bd2 (r_holderOf S 0 x1 1) (fun v18 S19 => (r_remove S19 v18 (S19.2 14)).bind (fun S20 => r_takeOut_17 FU v18 S20))
set_option maxRecDepth 20000 in
theorem rs_takeOut_122 {l : Launch} {κ : KMt} {Z : MS} (k62 : MS → Option (MS)) (h62 : ∀ (S : MS), k62 S = some Z → Go l (EM κ) RX12 cX12_takeOut 5 none 4 97 0 0 none Z 62 [(0, .ref κ.o)] [] S) (n : Nat) : ∀ (x3 : Int32) (x4 : Int32) (S : MS), r_takeOut_122 k62 n x3 x4 S = some Z → Go l (EM κ) RX12 cX12_takeOut 5 none 4 97 0 0 none Z 122 [(0, .ref κ.o), (3, .int x3), (4, .int x4)] [] S := by
  induction n with
  | zero => intro x3 x4 S h; rw [r_takeOut_122] at h; cases h
  | succ n ih =>
    intro x3 x4 S h
    rw [r_takeOut_122] at h
    refine Go.iload 2 dX12_takeOut_122 rfl ?_
    refine Go.aload_n 0 dX12_takeOut_124 rfl ?_
    refine Go.iload_n 1 dX12_takeOut_125 rfl ?_
    refine GM.callvr (rest := [.int x4]) [.int x3] dX12_takeOut_126 ck_countOf ci_countOf (rt_countOf _) rfl rfl (Nat.le_of_ble_eq_true rfl) (Nat.le_of_ble_eq_true rfl) (Nat.le_of_ble_eq_true rfl) h (fun v1 h => ?_)
    refine Go.icmp_ge 147 dX12_takeOut_129 (by decide) h (fun h => ?_) (fun h => ?_)
    · refine Go.goto 62 dX12_takeOut_147 (by decide) ?_
      refine Go.sub [0] rfl ?_
      exact h62 _ h
    · refine Go.aload_n 0 dX12_takeOut_132 rfl ?_
      refine Go.iload_n 1 dX12_takeOut_133 rfl ?_
      refine Go.iload 2 dX12_takeOut_134 rfl ?_
      refine Go.iconst 2 dX12_takeOut_136 (by decide) ?_
      refine Go.iconst 0 dX12_takeOut_137 (by decide) ?_
      refine GM.callvu (rest := []) [.int x3, .int x4, .int 2, .int 0] dX12_takeOut_138 ck_letEntry ci_letEntry (rt_letEntry _ _ _ _) rfl rfl (Nat.le_of_ble_eq_true rfl) (Nat.le_of_ble_eq_true rfl) (Nat.le_of_ble_eq_true rfl) h (fun S2 h => ?_)
      refine Go.iinc (w := 1) 2 [(0, .ref κ.o), (3, .int x3), (4, .int (x4 + 1))] dX12_takeOut_141 rfl (by decide) (by decide) rfl ?_
      refine Go.goto 122 dX12_takeOut_144 (by decide) ?_
      exact ih _ _ _ h
set_option maxRecDepth 20000 in
theorem rs_takeOut_62 {l : Launch} {κ : KMt} {Z : MS} (n : Nat) : ∀ (S : MS), r_takeOut_62 n S = some Z → Go l (EM κ) RX12 cX12_takeOut 5 none 4 97 0 0 none Z 62 [(0, .ref κ.o)] [] S := by
  induction n with
  | zero => intro S h; rw [r_takeOut_62] at h; cases h
  | succ n ih =>
    intro S h
    rw [r_takeOut_62] at h
    refine Go.aload_n 0 dX12_takeOut_62 rfl ?_
    refine Go.aload_n 0 dX12_takeOut_63 rfl ?_
    refine GM.geta 0 0 (by decide) rfl fl_a rfl dX12_takeOut_64 ?_
    refine Go.iconst 2 dX12_takeOut_67 (by decide) ?_
    refine GM.iald 0 (by decide) rfl dX12_takeOut_68 h (fun v3 h => ?_)
    refine GM.callvr (rest := []) [.int v3] dX12_takeOut_69 ck_isLeaf ci_isLeaf (rt_isLeaf _) rfl rfl (Nat.le_of_ble_eq_true rfl) (Nat.le_of_ble_eq_true rfl) (Nat.le_of_ble_eq_true rfl) h (fun v4 h => ?_)
    refine Go.if_ne 150 dX12_takeOut_72 (by decide) h (fun h => ?_) (fun h => ?_)
    · cases h
      exact Go.vret dX12_takeOut_150 rfl
    · refine Go.aload_n 0 dX12_takeOut_75 rfl ?_
      refine Go.aload_n 0 dX12_takeOut_76 rfl ?_
      refine GM.geta 0 0 (by decide) rfl fl_a rfl dX12_takeOut_77 ?_
      refine Go.iconst 2 dX12_takeOut_80 (by decide) ?_
      refine GM.iald 0 (by decide) rfl dX12_takeOut_81 h (fun v5 h => ?_)
      refine GM.callvr (rest := []) [.int v5] dX12_takeOut_82 ck_countOf ci_countOf (rt_countOf _) rfl rfl (Nat.le_of_ble_eq_true rfl) (Nat.le_of_ble_eq_true rfl) (Nat.le_of_ble_eq_true rfl) h (fun v6 h => ?_)
      refine Go.iconst 1 dX12_takeOut_85 (by decide) ?_
      refine Go.icmp_ne 150 dX12_takeOut_86 (by decide) h (fun h => ?_) (fun h => ?_)
      · cases h
        exact Go.vret dX12_takeOut_150 rfl
      · refine Go.aload_n 0 dX12_takeOut_89 rfl ?_
        refine Go.aload_n 0 dX12_takeOut_90 rfl ?_
        refine GM.geta 0 0 (by decide) rfl fl_a rfl dX12_takeOut_91 ?_
        refine Go.iconst 2 dX12_takeOut_94 (by decide) ?_
        refine GM.iald 0 (by decide) rfl dX12_takeOut_95 h (fun v7 h => ?_)
        refine Go.iconst 0 dX12_takeOut_96 (by decide) ?_
        refine Go.iconst 3 dX12_takeOut_97 (by decide) ?_
        refine GM.callvr (rest := []) [.int v7, .int 0, .int 3] dX12_takeOut_98 ck_entryOf ci_entryOf (rt_entryOf _ _ _) rfl rfl (Nat.le_of_ble_eq_true rfl) (Nat.le_of_ble_eq_true rfl) (Nat.le_of_ble_eq_true rfl) h (fun v8 h => ?_)
        refine Go.istore_n [(0, .ref κ.o), (3, .int v8)] dX12_takeOut_101 (by decide) rfl ?_
        refine Go.aload_n 0 dX12_takeOut_102 rfl ?_
        refine Go.aload_n 0 dX12_takeOut_103 rfl ?_
        refine GM.geta 0 0 (by decide) rfl fl_a rfl dX12_takeOut_104 ?_
        refine Go.iconst 2 dX12_takeOut_107 (by decide) ?_
        refine GM.iald 0 (by decide) rfl dX12_takeOut_108 h (fun v9 h => ?_)
        refine GM.callvu (rest := []) [.int v9] dX12_takeOut_109 ck_freePage ci_freePage (rt_freePage _) rfl rfl (Nat.le_of_ble_eq_true rfl) (Nat.le_of_ble_eq_true rfl) (Nat.le_of_ble_eq_true rfl) h (fun S10 h => ?_)
        refine Go.aload_n 0 dX12_takeOut_112 rfl ?_
        refine GM.geta 0 0 (by decide) rfl fl_a rfl dX12_takeOut_113 ?_
        refine Go.iconst 2 dX12_takeOut_116 (by decide) ?_
        refine Go.iload_n 1 dX12_takeOut_117 rfl ?_
        refine GM.iast 0 (by decide) rfl dX12_takeOut_118 h (fun S11 h => ?_)
        refine Go.iconst 0 dX12_takeOut_119 (by decide) ?_
        refine Go.istore [(0, .ref κ.o), (3, .int v8), (4, .int 0)] dX12_takeOut_120 (by decide) rfl ?_
        exact rs_takeOut_122 _ ih _ _ _ _ h
set_option maxRecDepth 20000 in
theorem rs_takeOut_17 {l : Launch} {κ : KMt} {Z : MS} (n : Nat) : ∀ (x2 : Int32) (S : MS), r_takeOut_17 n x2 S = some Z → Go l (EM κ) RX12 cX12_takeOut 5 none 4 97 0 0 none Z 17 [(0, .ref κ.o), (2, .int x2)] [] S := by
  induction n with
  | zero => intro x2 S h; rw [r_takeOut_17] at h; cases h
  | succ n ih =>
    intro x2 S h
    rw [r_takeOut_17] at h
    refine Go.aload_n 0 dX12_takeOut_17 rfl ?_
    refine Go.iload_n 1 dX12_takeOut_18 rfl ?_
    refine GM.callvr (rest := []) [.int x2] dX12_takeOut_19 ck_countOf ci_countOf (rt_countOf _) rfl rfl (Nat.le_of_ble_eq_true rfl) (Nat.le_of_ble_eq_true rfl) (Nat.le_of_ble_eq_true rfl) h (fun v12 h => ?_)
    refine Go.if_ne 62 dX12_takeOut_22 (by decide) h (fun h => ?_) (fun h => ?_)
    · refine Go.sub [0] rfl ?_
      exact rs_takeOut_62 _ _ h
    · refine Go.iload_n 1 dX12_takeOut_25 rfl ?_
      refine Go.aload_n 0 dX12_takeOut_26 rfl ?_
      refine GM.geta 0 0 (by decide) rfl fl_a rfl dX12_takeOut_27 ?_
      refine Go.iconst 2 dX12_takeOut_30 (by decide) ?_
      refine GM.iald 0 (by decide) rfl dX12_takeOut_31 h (fun v13 h => ?_)
      refine Go.icmp_eq 62 dX12_takeOut_32 (by decide) h (fun h => ?_) (fun h => ?_)
      · refine Go.sub [0] rfl ?_
        exact rs_takeOut_62 _ _ h
      · refine Go.aload_n 0 dX12_takeOut_35 rfl ?_
        refine Go.iconst 3 dX12_takeOut_36 (by decide) ?_
        refine Go.iload_n 1 dX12_takeOut_37 rfl ?_
        refine Go.iconst 0 dX12_takeOut_38 (by decide) ?_
        refine GM.callvw (rest := []) [.int 3, .int x2, .int 0] dX12_takeOut_39 ck_holderOf ci_holderOf (rt_holderOf _ _ _) rfl rfl (Nat.le_of_ble_eq_true rfl) (Nat.le_of_ble_eq_true rfl) (Nat.le_of_ble_eq_true rfl) h (fun v14 S15 h => ?_)
        refine Go.istore_n [(0, .ref κ.o), (2, .int x2), (3, .int v14)] dX12_takeOut_42 (by decide) rfl ?_
        refine Go.aload_n 0 dX12_takeOut_43 rfl ?_
        refine Go.iload_n 2 dX12_takeOut_44 rfl ?_
        refine Go.aload_n 0 dX12_takeOut_45 rfl ?_
        refine GM.geti 14 (by decide) rfl fl_placeOf rfl dX12_takeOut_46 ?_
        refine GM.callvu (rest := []) [.int v14, .int (S15.2 14)] dX12_takeOut_49 ck_remove ci_remove (rt_remove _ _) rfl rfl (Nat.le_of_ble_eq_true rfl) (Nat.le_of_ble_eq_true rfl) (Nat.le_of_ble_eq_true rfl) h (fun S16 h => ?_)
        refine Go.aload_n 0 dX12_takeOut_52 rfl ?_
        refine Go.iload_n 1 dX12_takeOut_53 rfl ?_
        refine GM.callvu (rest := []) [.int x2] dX12_takeOut_54 ck_freePage ci_freePage (rt_freePage _) rfl rfl (Nat.le_of_ble_eq_true rfl) (Nat.le_of_ble_eq_true rfl) (Nat.le_of_ble_eq_true rfl) h (fun S17 h => ?_)
        refine Go.iload_n 2 dX12_takeOut_57 rfl ?_
        refine Go.istore_n [(0, .ref κ.o), (2, .int v14), (3, .int v14)] dX12_takeOut_58 (by decide) rfl ?_
        refine Go.goto 17 dX12_takeOut_59 (by decide) ?_
        refine Go.sub [0, 1] rfl ?_
        exact ih _ _ h
set_option maxRecDepth 20000 in
theorem rs_takeOut {l : Launch} {κ : KMt} {S : MS} {Z : MS} (x1 : Int32) (h : r_takeOut S x1 = some Z) : Go l (EM κ) RX12 cX12_takeOut 5 none 4 97 0 0 none Z 0 [(0, .ref κ.o), (1, .int x1)] [] S := by
  unfold r_takeOut at h
  refine Go.aload_n 0 dX12_takeOut_0 rfl ?_
  refine Go.iconst 0 dX12_takeOut_1 (by decide) ?_
  refine Go.iload_n 1 dX12_takeOut_2 rfl ?_
  refine Go.iconst 1 dX12_takeOut_3 (by decide) ?_
  refine GM.callvw (rest := []) [.int 0, .int x1, .int 1] dX12_takeOut_4 ck_holderOf ci_holderOf (rt_holderOf _ _ _) rfl rfl (Nat.le_of_ble_eq_true rfl) (Nat.le_of_ble_eq_true rfl) (Nat.le_of_ble_eq_true rfl) h (fun v18 S19 h => ?_)
  refine Go.istore_n [(0, .ref κ.o), (1, .int x1), (2, .int v18)] dX12_takeOut_7 (by decide) rfl ?_
  refine Go.aload_n 0 dX12_takeOut_8 rfl ?_
  refine Go.iload_n 2 dX12_takeOut_9 rfl ?_
  refine Go.aload_n 0 dX12_takeOut_10 rfl ?_
  refine GM.geti 14 (by decide) rfl fl_placeOf rfl dX12_takeOut_11 ?_
  refine GM.callvu (rest := []) [.int v18, .int (S19.2 14)] dX12_takeOut_14 ck_remove ci_remove (rt_remove _ _) rfl rfl (Nat.le_of_ble_eq_true rfl) (Nat.le_of_ble_eq_true rfl) (Nat.le_of_ble_eq_true rfl) h (fun S20 h => ?_)
  refine Go.sub [0, 2] rfl ?_
  exact rs_takeOut_17 _ _ _ h
set_option maxRecDepth 20000 in
theorem rt_takeOut {l : Launch} {κ : KMt} {S : MS} (x1 : Int32) : ∀ Z, r_takeOut S x1 = some Z → MtM l κ yX12_takeOut cX12_takeOut 5 none 4 97 [.ref κ.o, .int x1] S none Z := fun Z h => MtM.of (by decide +kernel) rfl (Nat.le_of_ble_eq_true rfl) ⟨rfl, rfl, trivial⟩ (rs_takeOut x1 h)
/-! dropNow -/
def r_dropNow_15  (x1 : Int32) (x2 : Int32) (S : MS) : Option (MS) := (wr S 0 (6 + x1) 0).bind (fun S1 => (r_forgetTold S1 x1).bind (fun S2 => if x2 = 0 then some S2 else (r_buildNow S2 ).bind (fun S3 => some S3)))
def r_dropNow (S : MS) (x1 : Int32) : Option (MS) := (r_isCentre S x1).bind (fun v4 => if v4 = 0 then (r_takeOut S x1).bind (fun S5 => r_dropNow_15 x1 v4 S5) else r_dropNow_15 x1 v4 S)
set_option maxRecDepth 20000 in
theorem rs_dropNow_15 {l : Launch} {κ : KMt} {Z : MS} (x1 : Int32) (x2 : Int32) (S : MS) (h : r_dropNow_15 x1 x2 S = some Z) : Go l (EM κ) RX12 cX12_dropNow 3 none 11 277 0 0 none Z 15 [(0, .ref κ.o), (1, .int x1), (2, .int x2)] [] S := by
  unfold r_dropNow_15 at h
  refine Go.aload_n 0 dX12_dropNow_15 rfl ?_
  refine GM.geta 0 0 (by decide) rfl fl_a rfl dX12_dropNow_16 ?_
  refine Go.bipush 6 dX12_dropNow_19 (by decide) ?_
  refine Go.iload_n 1 dX12_dropNow_21 rfl ?_
  refine Go.iadd dX12_dropNow_22 ?_
  refine Go.iconst 0 dX12_dropNow_23 (by decide) ?_
  refine GM.iast 0 (by decide) rfl dX12_dropNow_24 h (fun S1 h => ?_)
  refine Go.aload_n 0 dX12_dropNow_25 rfl ?_
  refine Go.iload_n 1 dX12_dropNow_26 rfl ?_
  refine GM.callvu (rest := []) [.int x1] dX12_dropNow_27 ck_forgetTold ci_forgetTold (rt_forgetTold _) rfl rfl (Nat.le_of_ble_eq_true rfl) (Nat.le_of_ble_eq_true rfl) (Nat.le_of_ble_eq_true rfl) h (fun S2 h => ?_)
  refine Go.iload_n 2 dX12_dropNow_30 rfl ?_
  refine Go.if_eq 38 dX12_dropNow_31 (by decide) h (fun h => ?_) (fun h => ?_)
  · cases h
    exact Go.vret dX12_dropNow_38 rfl
  · refine Go.aload_n 0 dX12_dropNow_34 rfl ?_
    refine GM.callvu (rest := []) [] dX12_dropNow_35 ck_buildNow ci_buildNow (rt_buildNow ) rfl rfl (Nat.le_of_ble_eq_true rfl) (Nat.le_of_ble_eq_true rfl) (Nat.le_of_ble_eq_true rfl) h (fun S3 h => ?_)
    cases h
    exact Go.vret dX12_dropNow_38 rfl
set_option maxRecDepth 20000 in
theorem rs_dropNow {l : Launch} {κ : KMt} {S : MS} {Z : MS} (x1 : Int32) (h : r_dropNow S x1 = some Z) : Go l (EM κ) RX12 cX12_dropNow 3 none 11 277 0 0 none Z 0 [(0, .ref κ.o), (1, .int x1)] [] S := by
  unfold r_dropNow at h
  refine Go.aload_n 0 dX12_dropNow_0 rfl ?_
  refine Go.iload_n 1 dX12_dropNow_1 rfl ?_
  refine GM.callvr (rest := []) [.int x1] dX12_dropNow_2 ck_isCentre ci_isCentre (rt_isCentre _) rfl rfl (Nat.le_of_ble_eq_true rfl) (Nat.le_of_ble_eq_true rfl) (Nat.le_of_ble_eq_true rfl) h (fun v4 h => ?_)
  refine Go.istore_n [(0, .ref κ.o), (1, .int x1), (2, .int v4)] dX12_dropNow_5 (by decide) rfl ?_
  refine Go.iload_n 2 dX12_dropNow_6 rfl ?_
  refine Go.if_ne 15 dX12_dropNow_7 (by decide) h (fun h => ?_) (fun h => ?_)
  · exact rs_dropNow_15 _ _ _ h
  · refine Go.aload_n 0 dX12_dropNow_10 rfl ?_
    refine Go.iload_n 1 dX12_dropNow_11 rfl ?_
    refine GM.callvu (rest := []) [.int x1] dX12_dropNow_12 ck_takeOut ci_takeOut (rt_takeOut _) rfl rfl (Nat.le_of_ble_eq_true rfl) (Nat.le_of_ble_eq_true rfl) (Nat.le_of_ble_eq_true rfl) h (fun S5 h => ?_)
    exact rs_dropNow_15 _ _ _ h
set_option maxRecDepth 20000 in
theorem rt_dropNow {l : Launch} {κ : KMt} {S : MS} (x1 : Int32) : ∀ Z, r_dropNow S x1 = some Z → MtM l κ yX12_dropNow cX12_dropNow 3 none 11 277 [.ref κ.o, .int x1] S none Z := fun Z h => MtM.of (by decide +kernel) rfl (Nat.le_of_ble_eq_true rfl) ⟨rfl, rfl, trivial⟩ (rs_dropNow x1 h)
/-! stepAt -/
def r_stepAt (S : MS) (x0 : Int32) (x1 : Int32) : Option (Int32) := some (23614 + (23612 * ((x0 + x1) - (x0 + x1) / 20 * 20)))
set_option maxRecDepth 20000 in
theorem rs_stepAt {l : Launch} {κ : KMt} {S : MS} {Z : Int32} (x0 : Int32) (x1 : Int32) (h : r_stepAt S x0 x1 = some Z) : Go l (EM κ) RX12 cX12_stepAt 2 (some .int) 0 0 0 0 (some (.int Z)) S 0 [(0, .int x0), (1, .int x1)] [] S := by
  unfold r_stepAt at h
  refine Go.sipush 23614 dX12_stepAt_0 (by decide) ?_
  refine Go.sipush 23612 dX12_stepAt_3 (by decide) ?_
  refine Go.iload_n 0 dX12_stepAt_6 rfl ?_
  refine Go.iload_n 1 dX12_stepAt_7 rfl ?_
  refine Go.iadd dX12_stepAt_8 ?_
  refine Go.bipush 20 dX12_stepAt_9 (by decide) ?_
  refine Go.irem dX12_stepAt_11 (by decide) ?_
  refine Go.imul dX12_stepAt_12 ?_
  refine Go.iadd dX12_stepAt_13 ?_
  cases h
  exact Go.iret dX12_stepAt_14 rfl
set_option maxRecDepth 20000 in
theorem rt_stepAt {l : Launch} {κ : KMt} {S : MS} (x0 : Int32) (x1 : Int32) : ∀ Z, r_stepAt S x0 x1 = some Z → MtM l κ yX12_stepAt cX12_stepAt 2 (some .int) 0 0 [.int x0, .int x1] S (some (.int Z)) S := fun Z h => MtM.of (by decide +kernel) rfl (Nat.le_of_ble_eq_true rfl) ⟨rfl, rfl, trivial⟩ (rs_stepAt x0 x1 h)
/-! keep -/
def r_keep_56  : Nat → Int32 → Int32 → MS → Option (MS)
  | 0, _, _, _ => none
  | n + 1, x1, x2, S => if 23612 ≤ x2 then (rd S 0 0).bind (fun v1 => (wr S 0 0 (v1 + 1)).bind (fun S2 => some S2)) else (rd S 0 (2 + x2)).bind (fun v3 => (wr S 0 (x1 + x2) v3).bind (fun S4 => r_keep_56 n x1 (x2 + 1) S4))
def r_keep_38  (S : MS) : Option (MS) := (rd S 0 1).bind (fun v5 => (rd S 0 0).bind (fun v6 => (r_stepAt S v5 v6).bind (fun v7 => r_keep_56 FU v7 0 S)))
def r_keep (S : MS)  : Option (MS) := (rd S 0 0).bind (fun v8 => if v8 = 20 then (rd S 0 1).bind (fun v9 => (wr S 0 1 ((v9 + 1) - (v9 + 1) / 20 * 20)).bind (fun S10 => (rd S10 0 0).bind (fun v11 => (wr S10 0 0 (v11 - 1)).bind (fun S12 => r_keep_38 S12)))) else r_keep_38 S)
set_option maxRecDepth 20000 in
theorem rs_keep_56 {l : Launch} {κ : KMt} {Z : MS} (n : Nat) : ∀ (x1 : Int32) (x2 : Int32) (S : MS), r_keep_56 n x1 x2 S = some Z → Go l (EM κ) RX12 cX12_keep 3 none 1 21 0 0 none Z 56 [(0, .ref κ.o), (1, .int x1), (2, .int x2)] [] S := by
  induction n with
  | zero => intro x1 x2 S h; rw [r_keep_56] at h; cases h
  | succ n ih =>
    intro x1 x2 S h
    rw [r_keep_56] at h
    refine Go.iload_n 2 dX12_keep_56 rfl ?_
    refine Go.sipush 23612 dX12_keep_57 (by decide) ?_
    refine Go.icmp_ge 85 dX12_keep_60 (by decide) h (fun h => ?_) (fun h => ?_)
    · refine Go.aload_n 0 dX12_keep_85 rfl ?_
      refine GM.geta 0 0 (by decide) rfl fl_a rfl dX12_keep_86 ?_
      refine Go.iconst 0 dX12_keep_89 (by decide) ?_
      refine Go.dup2 dX12_keep_90 rfl rfl ?_
      refine GM.iald 0 (by decide) rfl dX12_keep_91 h (fun v1 h => ?_)
      refine Go.iconst 1 dX12_keep_92 (by decide) ?_
      refine Go.iadd dX12_keep_93 ?_
      refine GM.iast 0 (by decide) rfl dX12_keep_94 h (fun S2 h => ?_)
      cases h
      exact Go.vret dX12_keep_95 rfl
    · refine Go.aload_n 0 dX12_keep_63 rfl ?_
      refine GM.geta 0 0 (by decide) rfl fl_a rfl dX12_keep_64 ?_
      refine Go.iload_n 1 dX12_keep_67 rfl ?_
      refine Go.iload_n 2 dX12_keep_68 rfl ?_
      refine Go.iadd dX12_keep_69 ?_
      refine Go.aload_n 0 dX12_keep_70 rfl ?_
      refine GM.geta 0 0 (by decide) rfl fl_a rfl dX12_keep_71 ?_
      refine Go.iconst 2 dX12_keep_74 (by decide) ?_
      refine Go.iload_n 2 dX12_keep_75 rfl ?_
      refine Go.iadd dX12_keep_76 ?_
      refine GM.iald 0 (by decide) rfl dX12_keep_77 h (fun v3 h => ?_)
      refine GM.iast 0 (by decide) rfl dX12_keep_78 h (fun S4 h => ?_)
      refine Go.iinc (w := 1) 2 [(0, .ref κ.o), (1, .int x1), (2, .int (x2 + 1))] dX12_keep_79 rfl (by decide) (by decide) rfl ?_
      refine Go.goto 56 dX12_keep_82 (by decide) ?_
      exact ih _ _ _ h
set_option maxRecDepth 20000 in
theorem rs_keep_38 {l : Launch} {κ : KMt} {Z : MS} (S : MS) (h : r_keep_38 S = some Z) : Go l (EM κ) RX12 cX12_keep 3 none 1 21 0 0 none Z 38 [(0, .ref κ.o)] [] S := by
  unfold r_keep_38 at h
  refine Go.aload_n 0 dX12_keep_38 rfl ?_
  refine GM.geta 0 0 (by decide) rfl fl_a rfl dX12_keep_39 ?_
  refine Go.iconst 1 dX12_keep_42 (by decide) ?_
  refine GM.iald 0 (by decide) rfl dX12_keep_43 h (fun v5 h => ?_)
  refine Go.aload_n 0 dX12_keep_44 rfl ?_
  refine GM.geta 0 0 (by decide) rfl fl_a rfl dX12_keep_45 ?_
  refine Go.iconst 0 dX12_keep_48 (by decide) ?_
  refine GM.iald 0 (by decide) rfl dX12_keep_49 h (fun v6 h => ?_)
  refine GM.callsr (rest := []) [.int v5, .int v6] dX12_keep_50 ck_stepAt ci_stepAt (rt_stepAt _ _) rfl rfl (Nat.le_of_ble_eq_true rfl) (Nat.le_of_ble_eq_true rfl) (Nat.le_of_ble_eq_true rfl) h (fun v7 h => ?_)
  refine Go.istore_n [(0, .ref κ.o), (1, .int v7)] dX12_keep_53 (by decide) rfl ?_
  refine Go.iconst 0 dX12_keep_54 (by decide) ?_
  refine Go.istore_n [(0, .ref κ.o), (1, .int v7), (2, .int 0)] dX12_keep_55 (by decide) rfl ?_
  exact rs_keep_56 _ _ _ _ h
set_option maxRecDepth 20000 in
theorem rs_keep {l : Launch} {κ : KMt} {S : MS} {Z : MS}  (h : r_keep S  = some Z) : Go l (EM κ) RX12 cX12_keep 3 none 1 21 0 0 none Z 0 [(0, .ref κ.o)] [] S := by
  unfold r_keep at h
  refine Go.aload_n 0 dX12_keep_0 rfl ?_
  refine GM.geta 0 0 (by decide) rfl fl_a rfl dX12_keep_1 ?_
  refine Go.iconst 0 dX12_keep_4 (by decide) ?_
  refine GM.iald 0 (by decide) rfl dX12_keep_5 h (fun v8 h => ?_)
  refine Go.bipush 20 dX12_keep_6 (by decide) ?_
  refine Go.icmp_ne 38 dX12_keep_8 (by decide) h (fun h => ?_) (fun h => ?_)
  · exact rs_keep_38 _ h
  · refine Go.aload_n 0 dX12_keep_11 rfl ?_
    refine GM.geta 0 0 (by decide) rfl fl_a rfl dX12_keep_12 ?_
    refine Go.iconst 1 dX12_keep_15 (by decide) ?_
    refine Go.aload_n 0 dX12_keep_16 rfl ?_
    refine GM.geta 0 0 (by decide) rfl fl_a rfl dX12_keep_17 ?_
    refine Go.iconst 1 dX12_keep_20 (by decide) ?_
    refine GM.iald 0 (by decide) rfl dX12_keep_21 h (fun v9 h => ?_)
    refine Go.iconst 1 dX12_keep_22 (by decide) ?_
    refine Go.iadd dX12_keep_23 ?_
    refine Go.bipush 20 dX12_keep_24 (by decide) ?_
    refine Go.irem dX12_keep_26 (by decide) ?_
    refine GM.iast 0 (by decide) rfl dX12_keep_27 h (fun S10 h => ?_)
    refine Go.aload_n 0 dX12_keep_28 rfl ?_
    refine GM.geta 0 0 (by decide) rfl fl_a rfl dX12_keep_29 ?_
    refine Go.iconst 0 dX12_keep_32 (by decide) ?_
    refine Go.dup2 dX12_keep_33 rfl rfl ?_
    refine GM.iald 0 (by decide) rfl dX12_keep_34 h (fun v11 h => ?_)
    refine Go.iconst 1 dX12_keep_35 (by decide) ?_
    refine Go.isub dX12_keep_36 ?_
    refine GM.iast 0 (by decide) rfl dX12_keep_37 h (fun S12 h => ?_)
    exact rs_keep_38 _ h
set_option maxRecDepth 20000 in
theorem rt_keep {l : Launch} {κ : KMt} {S : MS}  : ∀ Z, r_keep S  = some Z → MtM l κ yX12_keep cX12_keep 3 none 1 21 [.ref κ.o] S none Z := fun Z h => MtM.of (by decide +kernel) rfl (Nat.le_of_ble_eq_true rfl) ⟨rfl, trivial⟩ (rs_keep  h)
/-! undo -/
def r_undo_39  : Nat → Int32 → Int32 → MS → Option (Int32 × MS)
  | 0, _, _, _ => none
  | n + 1, x1, x2, S => if 23612 ≤ x2 then (rd S 0 0).bind (fun v1 => some (v1, S)) else (rd S 0 (x1 + x2)).bind (fun v2 => (wr S 0 (2 + x2) v2).bind (fun S3 => r_undo_39 n x1 (x2 + 1) S3))
def r_undo (S : MS)  : Option (Int32 × MS) := (rd S 0 0).bind (fun v4 => if v4 = 0 then some ((-1), S) else (rd S 0 0).bind (fun v5 => (wr S 0 0 (v5 - 1)).bind (fun S6 => (rd S6 0 1).bind (fun v7 => (rd S6 0 0).bind (fun v8 => (r_stepAt S6 v7 v8).bind (fun v9 => r_undo_39 FU v9 0 S6))))))
set_option maxRecDepth 20000 in
theorem rs_undo_39 {l : Launch} {κ : KMt} {Z : Int32 × MS} (n : Nat) : ∀ (x1 : Int32) (x2 : Int32) (S : MS), r_undo_39 n x1 x2 S = some Z → Go l (EM κ) RX12 cX12_undo 3 (some .int) 1 21 0 0 (some (.int Z.1)) Z.2 39 [(0, .ref κ.o), (1, .int x1), (2, .int x2)] [] S := by
  induction n with
  | zero => intro x1 x2 S h; rw [r_undo_39] at h; cases h
  | succ n ih =>
    intro x1 x2 S h
    rw [r_undo_39] at h
    refine Go.iload_n 2 dX12_undo_39 rfl ?_
    refine Go.sipush 23612 dX12_undo_40 (by decide) ?_
    refine Go.icmp_ge 68 dX12_undo_43 (by decide) h (fun h => ?_) (fun h => ?_)
    · refine Go.aload_n 0 dX12_undo_68 rfl ?_
      refine GM.geta 0 0 (by decide) rfl fl_a rfl dX12_undo_69 ?_
      refine Go.iconst 0 dX12_undo_72 (by decide) ?_
      refine GM.iald 0 (by decide) rfl dX12_undo_73 h (fun v1 h => ?_)
      cases h
      exact Go.iret dX12_undo_74 rfl
    · refine Go.aload_n 0 dX12_undo_46 rfl ?_
      refine GM.geta 0 0 (by decide) rfl fl_a rfl dX12_undo_47 ?_
      refine Go.iconst 2 dX12_undo_50 (by decide) ?_
      refine Go.iload_n 2 dX12_undo_51 rfl ?_
      refine Go.iadd dX12_undo_52 ?_
      refine Go.aload_n 0 dX12_undo_53 rfl ?_
      refine GM.geta 0 0 (by decide) rfl fl_a rfl dX12_undo_54 ?_
      refine Go.iload_n 1 dX12_undo_57 rfl ?_
      refine Go.iload_n 2 dX12_undo_58 rfl ?_
      refine Go.iadd dX12_undo_59 ?_
      refine GM.iald 0 (by decide) rfl dX12_undo_60 h (fun v2 h => ?_)
      refine GM.iast 0 (by decide) rfl dX12_undo_61 h (fun S3 h => ?_)
      refine Go.iinc (w := 1) 2 [(0, .ref κ.o), (1, .int x1), (2, .int (x2 + 1))] dX12_undo_62 rfl (by decide) (by decide) rfl ?_
      refine Go.goto 39 dX12_undo_65 (by decide) ?_
      exact ih _ _ _ h
set_option maxRecDepth 20000 in
theorem rs_undo {l : Launch} {κ : KMt} {S : MS} {Z : Int32 × MS}  (h : r_undo S  = some Z) : Go l (EM κ) RX12 cX12_undo 3 (some .int) 1 21 0 0 (some (.int Z.1)) Z.2 0 [(0, .ref κ.o)] [] S := by
  unfold r_undo at h
  refine Go.aload_n 0 dX12_undo_0 rfl ?_
  refine GM.geta 0 0 (by decide) rfl fl_a rfl dX12_undo_1 ?_
  refine Go.iconst 0 dX12_undo_4 (by decide) ?_
  refine GM.iald 0 (by decide) rfl dX12_undo_5 h (fun v4 h => ?_)
  refine Go.if_ne 11 dX12_undo_6 (by decide) h (fun h => ?_) (fun h => ?_)
  · refine Go.aload_n 0 dX12_undo_11 rfl ?_
    refine GM.geta 0 0 (by decide) rfl fl_a rfl dX12_undo_12 ?_
    refine Go.iconst 0 dX12_undo_15 (by decide) ?_
    refine Go.dup2 dX12_undo_16 rfl rfl ?_
    refine GM.iald 0 (by decide) rfl dX12_undo_17 h (fun v5 h => ?_)
    refine Go.iconst 1 dX12_undo_18 (by decide) ?_
    refine Go.isub dX12_undo_19 ?_
    refine GM.iast 0 (by decide) rfl dX12_undo_20 h (fun S6 h => ?_)
    refine Go.aload_n 0 dX12_undo_21 rfl ?_
    refine GM.geta 0 0 (by decide) rfl fl_a rfl dX12_undo_22 ?_
    refine Go.iconst 1 dX12_undo_25 (by decide) ?_
    refine GM.iald 0 (by decide) rfl dX12_undo_26 h (fun v7 h => ?_)
    refine Go.aload_n 0 dX12_undo_27 rfl ?_
    refine GM.geta 0 0 (by decide) rfl fl_a rfl dX12_undo_28 ?_
    refine Go.iconst 0 dX12_undo_31 (by decide) ?_
    refine GM.iald 0 (by decide) rfl dX12_undo_32 h (fun v8 h => ?_)
    refine GM.callsr (rest := []) [.int v7, .int v8] dX12_undo_33 ck_stepAt ci_stepAt (rt_stepAt _ _) rfl rfl (Nat.le_of_ble_eq_true rfl) (Nat.le_of_ble_eq_true rfl) (Nat.le_of_ble_eq_true rfl) h (fun v9 h => ?_)
    refine Go.istore_n [(0, .ref κ.o), (1, .int v9)] dX12_undo_36 (by decide) rfl ?_
    refine Go.iconst 0 dX12_undo_37 (by decide) ?_
    refine Go.istore_n [(0, .ref κ.o), (1, .int v9), (2, .int 0)] dX12_undo_38 (by decide) rfl ?_
    exact rs_undo_39 _ _ _ _ h
  · refine Go.iconst (-1) dX12_undo_9 (by decide) ?_
    cases h
    exact Go.iret dX12_undo_10 rfl
set_option maxRecDepth 20000 in
theorem rt_undo {l : Launch} {κ : KMt} {S : MS}  : ∀ Z, r_undo S  = some Z → MtM l κ yX12_undo cX12_undo 3 (some .int) 1 21 [.ref κ.o] S (some (.int Z.1)) Z.2 := fun Z h => MtM.of (by decide +kernel) rfl (Nat.le_of_ble_eq_true rfl) ⟨rfl, trivial⟩ (rs_undo  h)
/-! thingOf -/
def r_thingOf_27 (S : MS) (k2 : Int32 → Int32 → Option (Int32)) (x1 : Int32) (x2 : Int32) : Option (Int32) := k2 x1 (x2 + 1)
def r_thingOf_2 (S : MS)  : Nat → Int32 → Int32 → Option (Int32)
  | 0, _, _ => none
  | n + 1, x1, x2 => if 40 ≤ x2 then some (-1) else (r_isThing S x2).bind (fun v1 => if v1 = 0 then r_thingOf_27 S (r_thingOf_2 S n) x1 x2 else (r_wordOf S x2).bind (fun v2 => if v2 = x1 then some x2 else r_thingOf_27 S (r_thingOf_2 S n) x1 x2))
def r_thingOf (S : MS) (x1 : Int32) : Option (Int32) := r_thingOf_2 S FU x1 0
set_option maxRecDepth 20000 in
theorem rs_thingOf_27 {l : Launch} {κ : KMt} {S : MS} {Z : Int32} (k2 : Int32 → Int32 → Option (Int32)) (h2 : ∀ (x1 : Int32) (x2 : Int32), k2 x1 x2 = some Z → Go l (EM κ) RX12 cX12_thingOf 3 (some .int) 2 43 0 0 (some (.int Z)) S 2 [(0, .ref κ.o), (1, .int x1), (2, .int x2)] [] S) (x1 : Int32) (x2 : Int32) (h : r_thingOf_27 S k2 x1 x2 = some Z) : Go l (EM κ) RX12 cX12_thingOf 3 (some .int) 2 43 0 0 (some (.int Z)) S 27 [(0, .ref κ.o), (1, .int x1), (2, .int x2)] [] S := by
  unfold r_thingOf_27 at h
  refine Go.iinc (w := 1) 2 [(0, .ref κ.o), (1, .int x1), (2, .int (x2 + 1))] dX12_thingOf_27 rfl (by decide) (by decide) rfl ?_
  refine Go.goto 2 dX12_thingOf_30 (by decide) ?_
  exact h2 _ _ h
set_option maxRecDepth 20000 in
theorem rs_thingOf_2 {l : Launch} {κ : KMt} {S : MS} {Z : Int32} (n : Nat) : ∀ (x1 : Int32) (x2 : Int32), r_thingOf_2 S n x1 x2 = some Z → Go l (EM κ) RX12 cX12_thingOf 3 (some .int) 2 43 0 0 (some (.int Z)) S 2 [(0, .ref κ.o), (1, .int x1), (2, .int x2)] [] S := by
  induction n with
  | zero => intro x1 x2 h; rw [r_thingOf_2] at h; cases h
  | succ n ih =>
    intro x1 x2 h
    rw [r_thingOf_2] at h
    refine Go.iload_n 2 dX12_thingOf_2 rfl ?_
    refine Go.bipush 40 dX12_thingOf_3 (by decide) ?_
    refine Go.icmp_ge 33 dX12_thingOf_5 (by decide) h (fun h => ?_) (fun h => ?_)
    · refine Go.iconst (-1) dX12_thingOf_33 (by decide) ?_
      cases h
      exact Go.iret dX12_thingOf_34 rfl
    · refine Go.aload_n 0 dX12_thingOf_8 rfl ?_
      refine Go.iload_n 2 dX12_thingOf_9 rfl ?_
      refine GM.callvr (rest := []) [.int x2] dX12_thingOf_10 ck_isThing ci_isThing (rt_isThing _) rfl rfl (Nat.le_of_ble_eq_true rfl) (Nat.le_of_ble_eq_true rfl) (Nat.le_of_ble_eq_true rfl) h (fun v1 h => ?_)
      refine Go.if_eq 27 dX12_thingOf_13 (by decide) h (fun h => ?_) (fun h => ?_)
      · exact rs_thingOf_27 _ ih _ _ h
      · refine Go.aload_n 0 dX12_thingOf_16 rfl ?_
        refine Go.iload_n 2 dX12_thingOf_17 rfl ?_
        refine GM.callvr (rest := []) [.int x2] dX12_thingOf_18 ck_wordOf ci_wordOf (rt_wordOf _) rfl rfl (Nat.le_of_ble_eq_true rfl) (Nat.le_of_ble_eq_true rfl) (Nat.le_of_ble_eq_true rfl) h (fun v2 h => ?_)
        refine Go.iload_n 1 dX12_thingOf_21 rfl ?_
        refine Go.icmp_ne 27 dX12_thingOf_22 (by decide) h (fun h => ?_) (fun h => ?_)
        · exact rs_thingOf_27 _ ih _ _ h
        · refine Go.iload_n 2 dX12_thingOf_25 rfl ?_
          cases h
          exact Go.iret dX12_thingOf_26 rfl
set_option maxRecDepth 20000 in
theorem rs_thingOf {l : Launch} {κ : KMt} {S : MS} {Z : Int32} (x1 : Int32) (h : r_thingOf S x1 = some Z) : Go l (EM κ) RX12 cX12_thingOf 3 (some .int) 2 43 0 0 (some (.int Z)) S 0 [(0, .ref κ.o), (1, .int x1)] [] S := by
  unfold r_thingOf at h
  refine Go.iconst 0 dX12_thingOf_0 (by decide) ?_
  refine Go.istore_n [(0, .ref κ.o), (1, .int x1), (2, .int 0)] dX12_thingOf_1 (by decide) rfl ?_
  exact rs_thingOf_2 _ _ _ h
set_option maxRecDepth 20000 in
theorem rt_thingOf {l : Launch} {κ : KMt} {S : MS} (x1 : Int32) : ∀ Z, r_thingOf S x1 = some Z → MtM l κ yX12_thingOf cX12_thingOf 3 (some .int) 2 43 [.ref κ.o, .int x1] S (some (.int Z)) S := fun Z h => MtM.of (by decide +kernel) rfl (Nat.le_of_ble_eq_true rfl) ⟨rfl, rfl, trivial⟩ (rs_thingOf x1 h)
/-! canPut -/
def r_canPut (S : MS) (x1 : Int32) : Option (Int32) := (r_lettersOf S x1).bind (fun v1 => if v1 = (-1) then zb 0 else (r_thingOf S x1).bind (fun v2 => if v2 = (-1) then (r_things S ).bind (fun v3 => if 40 ≤ v3 then zb 0 else zb 1) else zb 0))
set_option maxRecDepth 20000 in
theorem rs_canPut {l : Launch} {κ : KMt} {S : MS} {Z : Int32} (x1 : Int32) (h : r_canPut S x1 = some Z) : Go l (EM κ) RX12 cX12_canPut 2 (some .boolean) 3 65 0 0 (some (.int Z)) S 0 [(0, .ref κ.o), (1, .int x1)] [] S := by
  unfold r_canPut at h
  refine Go.iload_n 1 dX12_canPut_0 rfl ?_
  refine GM.callsr (rest := []) [.int x1] dX12_canPut_1 ck_lettersOf ci_lettersOf (rt_lettersOf _) rfl rfl (Nat.le_of_ble_eq_true rfl) (Nat.le_of_ble_eq_true rfl) (Nat.le_of_ble_eq_true rfl) h (fun v1 h => ?_)
  refine Go.iconst (-1) dX12_canPut_4 (by decide) ?_
  refine Go.icmp_eq 30 dX12_canPut_5 (by decide) h (fun h => ?_) (fun h => ?_)
  · refine Go.iconst 0 dX12_canPut_30 (by decide) ?_
    exact Go.zret dX12_canPut_31 rfl h
  · refine Go.aload_n 0 dX12_canPut_8 rfl ?_
    refine Go.iload_n 1 dX12_canPut_9 rfl ?_
    refine GM.callvr (rest := []) [.int x1] dX12_canPut_10 ck_thingOf ci_thingOf (rt_thingOf _) rfl rfl (Nat.le_of_ble_eq_true rfl) (Nat.le_of_ble_eq_true rfl) (Nat.le_of_ble_eq_true rfl) h (fun v2 h => ?_)
    refine Go.iconst (-1) dX12_canPut_13 (by decide) ?_
    refine Go.icmp_ne 30 dX12_canPut_14 (by decide) h (fun h => ?_) (fun h => ?_)
    · refine Go.iconst 0 dX12_canPut_30 (by decide) ?_
      exact Go.zret dX12_canPut_31 rfl h
    · refine Go.aload_n 0 dX12_canPut_17 rfl ?_
      refine GM.callvr (rest := []) [] dX12_canPut_18 ck_things ci_things (rt_things ) rfl rfl (Nat.le_of_ble_eq_true rfl) (Nat.le_of_ble_eq_true rfl) (Nat.le_of_ble_eq_true rfl) h (fun v3 h => ?_)
      refine Go.bipush 40 dX12_canPut_21 (by decide) ?_
      refine Go.icmp_ge 30 dX12_canPut_23 (by decide) h (fun h => ?_) (fun h => ?_)
      · refine Go.iconst 0 dX12_canPut_30 (by decide) ?_
        exact Go.zret dX12_canPut_31 rfl h
      · refine Go.iconst 1 dX12_canPut_26 (by decide) ?_
        refine Go.goto 31 dX12_canPut_27 (by decide) ?_
        exact Go.zret dX12_canPut_31 rfl h
set_option maxRecDepth 20000 in
theorem rt_canPut {l : Launch} {κ : KMt} {S : MS} (x1 : Int32) : ∀ Z, r_canPut S x1 = some Z → MtM l κ yX12_canPut cX12_canPut 2 (some .boolean) 3 65 [.ref κ.o, .int x1] S (some (.int Z)) S := fun Z h => MtM.of (by decide +kernel) rfl (Nat.le_of_ble_eq_true rfl) ⟨rfl, rfl, trivial⟩ (rs_canPut x1 h)
/-! tellWord -/
def r_tellWord_2  : Nat → Int32 → Int32 → MS → Option (Int32 × MS)
  | 0, _, _, _ => none
  | n + 1, x1, x2, S => (r_isThing S x2).bind (fun v1 => if v1 = 0 then (wr S 0 (6 + x2) x1).bind (fun S2 => (r_putNow S2 x2).bind (fun S3 => some (x2, S3))) else r_tellWord_2 n x1 (x2 + 1) S)
def r_tellWord (S : MS) (x1 : Int32) : Option (Int32 × MS) := r_tellWord_2 FU x1 0 S
set_option maxRecDepth 20000 in
theorem rs_tellWord_2 {l : Launch} {κ : KMt} {Z : Int32 × MS} (n : Nat) : ∀ (x1 : Int32) (x2 : Int32) (S : MS), r_tellWord_2 n x1 x2 S = some Z → Go l (EM κ) RX12 cX12_tellWord 3 (some .int) 10 256 0 0 (some (.int Z.1)) Z.2 2 [(0, .ref κ.o), (1, .int x1), (2, .int x2)] [] S := by
  induction n with
  | zero => intro x1 x2 S h; rw [r_tellWord_2] at h; cases h
  | succ n ih =>
    intro x1 x2 S h
    rw [r_tellWord_2] at h
    refine Go.aload_n 0 dX12_tellWord_2 rfl ?_
    refine Go.iload_n 2 dX12_tellWord_3 rfl ?_
    refine GM.callvr (rest := []) [.int x2] dX12_tellWord_4 ck_isThing ci_isThing (rt_isThing _) rfl rfl (Nat.le_of_ble_eq_true rfl) (Nat.le_of_ble_eq_true rfl) (Nat.le_of_ble_eq_true rfl) h (fun v1 h => ?_)
    refine Go.if_eq 16 dX12_tellWord_7 (by decide) h (fun h => ?_) (fun h => ?_)
    · refine Go.aload_n 0 dX12_tellWord_16 rfl ?_
      refine GM.geta 0 0 (by decide) rfl fl_a rfl dX12_tellWord_17 ?_
      refine Go.bipush 6 dX12_tellWord_20 (by decide) ?_
      refine Go.iload_n 2 dX12_tellWord_22 rfl ?_
      refine Go.iadd dX12_tellWord_23 ?_
      refine Go.iload_n 1 dX12_tellWord_24 rfl ?_
      refine GM.iast 0 (by decide) rfl dX12_tellWord_25 h (fun S2 h => ?_)
      refine Go.aload_n 0 dX12_tellWord_26 rfl ?_
      refine Go.iload_n 2 dX12_tellWord_27 rfl ?_
      refine GM.callvu (rest := []) [.int x2] dX12_tellWord_28 ck_putNow ci_putNow (rt_putNow _) rfl rfl (Nat.le_of_ble_eq_true rfl) (Nat.le_of_ble_eq_true rfl) (Nat.le_of_ble_eq_true rfl) h (fun S3 h => ?_)
      refine Go.iload_n 2 dX12_tellWord_31 rfl ?_
      cases h
      exact Go.iret dX12_tellWord_32 rfl
    · refine Go.iinc (w := 1) 2 [(0, .ref κ.o), (1, .int x1), (2, .int (x2 + 1))] dX12_tellWord_10 rfl (by decide) (by decide) rfl ?_
      refine Go.goto 2 dX12_tellWord_13 (by decide) ?_
      exact ih _ _ _ h
set_option maxRecDepth 20000 in
theorem rs_tellWord {l : Launch} {κ : KMt} {S : MS} {Z : Int32 × MS} (x1 : Int32) (h : r_tellWord S x1 = some Z) : Go l (EM κ) RX12 cX12_tellWord 3 (some .int) 10 256 0 0 (some (.int Z.1)) Z.2 0 [(0, .ref κ.o), (1, .int x1)] [] S := by
  unfold r_tellWord at h
  refine Go.iconst 0 dX12_tellWord_0 (by decide) ?_
  refine Go.istore_n [(0, .ref κ.o), (1, .int x1), (2, .int 0)] dX12_tellWord_1 (by decide) rfl ?_
  exact rs_tellWord_2 _ _ _ _ h
set_option maxRecDepth 20000 in
theorem rt_tellWord {l : Launch} {κ : KMt} {S : MS} (x1 : Int32) : ∀ Z, r_tellWord S x1 = some Z → MtM l κ yX12_tellWord cX12_tellWord 3 (some .int) 10 256 [.ref κ.o, .int x1] S (some (.int Z.1)) Z.2 := fun Z h => MtM.of (by decide +kernel) rfl (Nat.le_of_ble_eq_true rfl) ⟨rfl, rfl, trivial⟩ (rs_tellWord x1 h)
/-! put -/
def r_put (S : MS) (x1 : Int32) : Option (Int32 × MS) := (r_canPut S x1).bind (fun v1 => if v1 = 0 then some ((-1), S) else (r_keep S ).bind (fun S2 => bd2 (r_tellWord S2 x1) (fun v3 S4 => some (v3, S4))))
set_option maxRecDepth 20000 in
theorem rs_put {l : Launch} {κ : KMt} {S : MS} {Z : Int32 × MS} (x1 : Int32) (h : r_put S x1 = some Z) : Go l (EM κ) RX12 cX12_put 2 (some .int) 11 278 0 0 (some (.int Z.1)) Z.2 0 [(0, .ref κ.o), (1, .int x1)] [] S := by
  unfold r_put at h
  refine Go.aload_n 0 dX12_put_0 rfl ?_
  refine Go.iload_n 1 dX12_put_1 rfl ?_
  refine GM.callvr (rest := []) [.int x1] dX12_put_2 ck_canPut ci_canPut (rt_canPut _) rfl rfl (Nat.le_of_ble_eq_true rfl) (Nat.le_of_ble_eq_true rfl) (Nat.le_of_ble_eq_true rfl) h (fun v1 h => ?_)
  refine Go.if_ne 10 dX12_put_5 (by decide) h (fun h => ?_) (fun h => ?_)
  · refine Go.aload_n 0 dX12_put_10 rfl ?_
    refine GM.callvu (rest := []) [] dX12_put_11 ck_keep ci_keep (rt_keep ) rfl rfl (Nat.le_of_ble_eq_true rfl) (Nat.le_of_ble_eq_true rfl) (Nat.le_of_ble_eq_true rfl) h (fun S2 h => ?_)
    refine Go.aload_n 0 dX12_put_14 rfl ?_
    refine Go.iload_n 1 dX12_put_15 rfl ?_
    refine GM.callvw (rest := []) [.int x1] dX12_put_16 ck_tellWord ci_tellWord (rt_tellWord _) rfl rfl (Nat.le_of_ble_eq_true rfl) (Nat.le_of_ble_eq_true rfl) (Nat.le_of_ble_eq_true rfl) h (fun v3 S4 h => ?_)
    cases h
    exact Go.iret dX12_put_19 rfl
  · refine Go.iconst (-1) dX12_put_8 (by decide) ?_
    cases h
    exact Go.iret dX12_put_9 rfl
set_option maxRecDepth 20000 in
theorem rt_put {l : Launch} {κ : KMt} {S : MS} (x1 : Int32) : ∀ Z, r_put S x1 = some Z → MtM l κ yX12_put cX12_put 2 (some .int) 11 278 [.ref κ.o, .int x1] S (some (.int Z.1)) Z.2 := fun Z h => MtM.of (by decide +kernel) rfl (Nat.le_of_ble_eq_true rfl) ⟨rfl, rfl, trivial⟩ (rs_put x1 h)
/-! drop -/
def r_drop (S : MS) (x1 : Int32) : Option (Int32 × MS) := (r_isThing S x1).bind (fun v1 => if v1 = 0 then (zb 0).bind (fun w => some (w, S)) else (r_keep S ).bind (fun S2 => (r_dropNow S2 x1).bind (fun S3 => (zb 1).bind (fun w => some (w, S3)))))
set_option maxRecDepth 20000 in
theorem rs_drop {l : Launch} {κ : KMt} {S : MS} {Z : Int32 × MS} (x1 : Int32) (h : r_drop S x1 = some Z) : Go l (EM κ) RX12 cX12_drop 2 (some .boolean) 12 299 0 0 (some (.int Z.1)) Z.2 0 [(0, .ref κ.o), (1, .int x1)] [] S := by
  unfold r_drop at h
  refine Go.aload_n 0 dX12_drop_0 rfl ?_
  refine Go.iload_n 1 dX12_drop_1 rfl ?_
  refine GM.callvr (rest := []) [.int x1] dX12_drop_2 ck_isThing ci_isThing (rt_isThing _) rfl rfl (Nat.le_of_ble_eq_true rfl) (Nat.le_of_ble_eq_true rfl) (Nat.le_of_ble_eq_true rfl) h (fun v1 h => ?_)
  refine Go.if_ne 10 dX12_drop_5 (by decide) h (fun h => ?_) (fun h => ?_)
  · refine Go.aload_n 0 dX12_drop_10 rfl ?_
    refine GM.callvu (rest := []) [] dX12_drop_11 ck_keep ci_keep (rt_keep ) rfl rfl (Nat.le_of_ble_eq_true rfl) (Nat.le_of_ble_eq_true rfl) (Nat.le_of_ble_eq_true rfl) h (fun S2 h => ?_)
    refine Go.aload_n 0 dX12_drop_14 rfl ?_
    refine Go.iload_n 1 dX12_drop_15 rfl ?_
    refine GM.callvu (rest := []) [.int x1] dX12_drop_16 ck_dropNow ci_dropNow (rt_dropNow _) rfl rfl (Nat.le_of_ble_eq_true rfl) (Nat.le_of_ble_eq_true rfl) (Nat.le_of_ble_eq_true rfl) h (fun S3 h => ?_)
    refine Go.iconst 1 dX12_drop_19 (by decide) ?_
    obtain ⟨w, hw, h⟩ := Option.bind_eq_some_iff.mp h
    cases h
    exact Go.zret dX12_drop_20 rfl hw
  · refine Go.iconst 0 dX12_drop_8 (by decide) ?_
    obtain ⟨w, hw, h⟩ := Option.bind_eq_some_iff.mp h
    cases h
    exact Go.zret dX12_drop_9 rfl hw
set_option maxRecDepth 20000 in
theorem rt_drop {l : Launch} {κ : KMt} {S : MS} (x1 : Int32) : ∀ Z, r_drop S x1 = some Z → MtM l κ yX12_drop cX12_drop 2 (some .boolean) 12 299 [.ref κ.o, .int x1] S (some (.int Z.1)) Z.2 := fun Z h => MtM.of (by decide +kernel) rfl (Nat.le_of_ble_eq_true rfl) ⟨rfl, rfl, trivial⟩ (rs_drop x1 h)
/-! setNow -/
def r_setNow_21  (x1 : Int32) (x2 : Int32) (S : MS) : Option (Int32 × MS) := (wr S 0 x1 x2).bind (fun S1 => (r_buildNow S1 ).bind (fun S2 => (zb 1).bind (fun w => some (w, S2))))
def r_setNow (S : MS) (x1 : Int32) (x2 : Int32) (x3 : Int32) (x4 : Int32) (x5 : Int32) : Option (Int32 × MS) := (r_isIn S x2 x3 x4).bind (fun v3 => if v3 = 0 then (zb 0).bind (fun w => some (w, S)) else if x5 = 0 then r_setNow_21 x1 x2 S else (r_keep S ).bind (fun S4 => r_setNow_21 x1 x2 S4))
set_option maxRecDepth 20000 in
theorem rs_setNow_21 {l : Launch} {κ : KMt} {Z : Int32 × MS} (x1 : Int32) (x2 : Int32) (S : MS) (h : r_setNow_21 x1 x2 S = some Z) : Go l (EM κ) RX12 cX12_setNow 6 (some .boolean) 11 277 0 0 (some (.int Z.1)) Z.2 21 [(0, .ref κ.o), (1, .int x1), (2, .int x2)] [] S := by
  unfold r_setNow_21 at h
  refine Go.aload_n 0 dX12_setNow_21 rfl ?_
  refine GM.geta 0 0 (by decide) rfl fl_a rfl dX12_setNow_22 ?_
  refine Go.iload_n 1 dX12_setNow_25 rfl ?_
  refine Go.iload_n 2 dX12_setNow_26 rfl ?_
  refine GM.iast 0 (by decide) rfl dX12_setNow_27 h (fun S1 h => ?_)
  refine Go.aload_n 0 dX12_setNow_28 rfl ?_
  refine GM.callvu (rest := []) [] dX12_setNow_29 ck_buildNow ci_buildNow (rt_buildNow ) rfl rfl (Nat.le_of_ble_eq_true rfl) (Nat.le_of_ble_eq_true rfl) (Nat.le_of_ble_eq_true rfl) h (fun S2 h => ?_)
  refine Go.iconst 1 dX12_setNow_32 (by decide) ?_
  obtain ⟨w, hw, h⟩ := Option.bind_eq_some_iff.mp h
  cases h
  exact Go.zret dX12_setNow_33 rfl hw
set_option maxRecDepth 20000 in
theorem rs_setNow {l : Launch} {κ : KMt} {S : MS} {Z : Int32 × MS} (x1 : Int32) (x2 : Int32) (x3 : Int32) (x4 : Int32) (x5 : Int32) (h : r_setNow S x1 x2 x3 x4 x5 = some Z) : Go l (EM κ) RX12 cX12_setNow 6 (some .boolean) 11 277 0 0 (some (.int Z.1)) Z.2 0 [(0, .ref κ.o), (1, .int x1), (2, .int x2), (3, .int x3), (4, .int x4), (5, .int x5)] [] S := by
  unfold r_setNow at h
  refine Go.iload_n 2 dX12_setNow_0 rfl ?_
  refine Go.iload_n 3 dX12_setNow_1 rfl ?_
  refine Go.iload 4 dX12_setNow_2 rfl ?_
  refine GM.callsr (rest := []) [.int x2, .int x3, .int x4] dX12_setNow_4 ck_isIn ci_isIn (rt_isIn _ _ _) rfl rfl (Nat.le_of_ble_eq_true rfl) (Nat.le_of_ble_eq_true rfl) (Nat.le_of_ble_eq_true rfl) h (fun v3 h => ?_)
  refine Go.if_ne 12 dX12_setNow_7 (by decide) h (fun h => ?_) (fun h => ?_)
  · refine Go.iload 5 dX12_setNow_12 rfl ?_
    refine Go.if_eq 21 dX12_setNow_14 (by decide) h (fun h => ?_) (fun h => ?_)
    · refine Go.sub [0, 1, 2] rfl ?_
      exact rs_setNow_21 _ _ _ h
    · refine Go.aload_n 0 dX12_setNow_17 rfl ?_
      refine GM.callvu (rest := []) [] dX12_setNow_18 ck_keep ci_keep (rt_keep ) rfl rfl (Nat.le_of_ble_eq_true rfl) (Nat.le_of_ble_eq_true rfl) (Nat.le_of_ble_eq_true rfl) h (fun S4 h => ?_)
      refine Go.sub [0, 1, 2] rfl ?_
      exact rs_setNow_21 _ _ _ h
  · refine Go.iconst 0 dX12_setNow_10 (by decide) ?_
    obtain ⟨w, hw, h⟩ := Option.bind_eq_some_iff.mp h
    cases h
    exact Go.zret dX12_setNow_11 rfl hw
set_option maxRecDepth 20000 in
theorem rt_setNow {l : Launch} {κ : KMt} {S : MS} (x1 : Int32) (x2 : Int32) (x3 : Int32) (x4 : Int32) (x5 : Int32) : ∀ Z, r_setNow S x1 x2 x3 x4 x5 = some Z → MtM l κ yX12_setNow cX12_setNow 6 (some .boolean) 11 277 [.ref κ.o, .int x1, .int x2, .int x3, .int x4, .int x5] S (some (.int Z.1)) Z.2 := fun Z h => MtM.of (by decide +kernel) rfl (Nat.le_of_ble_eq_true rfl) ⟨rfl, rfl, rfl, rfl, rfl, rfl, trivial⟩ (rs_setNow x1 x2 x3 x4 x5 h)
/-! measure -/
def r_measure (S : MS) (x1 : Int32) : Option (Int32 × MS) := bd2 (r_setNow S 3 x1 0 3 1) (fun v1 S2 => (zb v1).bind (fun w => some (w, S2)))
set_option maxRecDepth 20000 in
theorem rs_measure {l : Launch} {κ : KMt} {S : MS} {Z : Int32 × MS} (x1 : Int32) (h : r_measure S x1 = some Z) : Go l (EM κ) RX12 cX12_measure 2 (some .boolean) 12 302 0 0 (some (.int Z.1)) Z.2 0 [(0, .ref κ.o), (1, .int x1)] [] S := by
  unfold r_measure at h
  refine Go.aload_n 0 dX12_measure_0 rfl ?_
  refine Go.iconst 3 dX12_measure_1 (by decide) ?_
  refine Go.iload_n 1 dX12_measure_2 rfl ?_
  refine Go.iconst 0 dX12_measure_3 (by decide) ?_
  refine Go.iconst 3 dX12_measure_4 (by decide) ?_
  refine Go.iconst 1 dX12_measure_5 (by decide) ?_
  refine GM.callvw (rest := []) [.int 3, .int x1, .int 0, .int 3, .int 1] dX12_measure_6 ck_setNow ci_setNow (rt_setNow _ _ _ _ _) rfl rfl (Nat.le_of_ble_eq_true rfl) (Nat.le_of_ble_eq_true rfl) (Nat.le_of_ble_eq_true rfl) h (fun v1 S2 h => ?_)
  obtain ⟨w, hw, h⟩ := Option.bind_eq_some_iff.mp h
  cases h
  exact Go.zret dX12_measure_9 rfl hw
set_option maxRecDepth 20000 in
theorem rt_measure {l : Launch} {κ : KMt} {S : MS} (x1 : Int32) : ∀ Z, r_measure S x1 = some Z → MtM l κ yX12_measure cX12_measure 2 (some .boolean) 12 302 [.ref κ.o, .int x1] S (some (.int Z.1)) Z.2 := fun Z h => MtM.of (by decide +kernel) rfl (Nat.le_of_ble_eq_true rfl) ⟨rfl, rfl, trivial⟩ (rs_measure x1 h)
/-! cap -/
def r_cap (S : MS) (x1 : Int32) : Option (Int32 × MS) := bd2 (r_setNow S 4 x1 2 6 1) (fun v1 S2 => (zb v1).bind (fun w => some (w, S2)))
set_option maxRecDepth 20000 in
theorem rs_cap {l : Launch} {κ : KMt} {S : MS} {Z : Int32 × MS} (x1 : Int32) (h : r_cap S x1 = some Z) : Go l (EM κ) RX12 cX12_cap 2 (some .boolean) 12 302 0 0 (some (.int Z.1)) Z.2 0 [(0, .ref κ.o), (1, .int x1)] [] S := by
  unfold r_cap at h
  refine Go.aload_n 0 dX12_cap_0 rfl ?_
  refine Go.iconst 4 dX12_cap_1 (by decide) ?_
  refine Go.iload_n 1 dX12_cap_2 rfl ?_
  refine Go.iconst 2 dX12_cap_3 (by decide) ?_
  refine Go.bipush 6 dX12_cap_4 (by decide) ?_
  refine Go.iconst 1 dX12_cap_6 (by decide) ?_
  refine GM.callvw (rest := []) [.int 4, .int x1, .int 2, .int 6, .int 1] dX12_cap_7 ck_setNow ci_setNow (rt_setNow _ _ _ _ _) rfl rfl (Nat.le_of_ble_eq_true rfl) (Nat.le_of_ble_eq_true rfl) (Nat.le_of_ble_eq_true rfl) h (fun v1 S2 h => ?_)
  obtain ⟨w, hw, h⟩ := Option.bind_eq_some_iff.mp h
  cases h
  exact Go.zret dX12_cap_10 rfl hw
set_option maxRecDepth 20000 in
theorem rt_cap {l : Launch} {κ : KMt} {S : MS} (x1 : Int32) : ∀ Z, r_cap S x1 = some Z → MtM l κ yX12_cap cX12_cap 2 (some .boolean) 12 302 [.ref κ.o, .int x1] S (some (.int Z.1)) Z.2 := fun Z h => MtM.of (by decide +kernel) rfl (Nat.le_of_ble_eq_true rfl) ⟨rfl, rfl, trivial⟩ (rs_cap x1 h)
/-! tell -/
def r_tell_88  (x1 : Int32) (x2 : Int32) (x3 : Int32) (x4 : Int32) (S : MS) : Option (Int32 × MS) := (wr S 0 (46 + (3 * x4)) x1).bind (fun S1 => (wr S1 0 ((46 + (3 * x4)) + 1) x2).bind (fun S2 => (wr S2 0 ((46 + (3 * x4)) + 2) x3).bind (fun S3 => (r_buildNow S3 ).bind (fun S4 => (rd S4 0 5).bind (fun v5 => some (v5, S4))))))
def r_tell_60  (x1 : Int32) (x2 : Int32) (x3 : Int32) (x4 : Int32) (S : MS) : Option (Int32 × MS) := (r_keep S ).bind (fun S6 => if x4 = (-1) then (rd S6 0 5).bind (fun v7 => (rd S6 0 5).bind (fun v8 => (wr S6 0 5 (v8 + 1)).bind (fun S9 => r_tell_88 x1 x2 x3 v7 S9))) else r_tell_88 x1 x2 x3 x4 S6)
def r_tell (S : MS) (x1 : Int32) (x2 : Int32) (x3 : Int32) : Option (Int32 × MS) := (r_isThing S x1).bind (fun v10 => if v10 = 0 then some ((-1), S) else (r_isThing S x2).bind (fun v11 => if v11 = 0 then some ((-1), S) else if x1 = x2 then some ((-1), S) else (r_isIn S x3 0 99).bind (fun v12 => if v12 = 0 then some ((-1), S) else (r_toldAt S x1 x2).bind (fun v13 => if v13 = (-1) then (rd S 0 5).bind (fun v14 => if v14 = 16 then some ((-1), S) else r_tell_60 x1 x2 x3 v13 S) else r_tell_60 x1 x2 x3 v13 S))))
set_option maxRecDepth 20000 in
theorem rs_tell_88 {l : Launch} {κ : KMt} {Z : Int32 × MS} (x1 : Int32) (x2 : Int32) (x3 : Int32) (x4 : Int32) (S : MS) (h : r_tell_88 x1 x2 x3 x4 S = some Z) : Go l (EM κ) RX12 cX12_tell 5 (some .int) 11 277 0 0 (some (.int Z.1)) Z.2 88 [(0, .ref κ.o), (1, .int x1), (2, .int x2), (3, .int x3), (4, .int x4)] [] S := by
  unfold r_tell_88 at h
  refine Go.aload_n 0 dX12_tell_88 rfl ?_
  refine GM.geta 0 0 (by decide) rfl fl_a rfl dX12_tell_89 ?_
  refine Go.bipush 46 dX12_tell_92 (by decide) ?_
  refine Go.iconst 3 dX12_tell_94 (by decide) ?_
  refine Go.iload 4 dX12_tell_95 rfl ?_
  refine Go.imul dX12_tell_97 ?_
  refine Go.iadd dX12_tell_98 ?_
  refine Go.iload_n 1 dX12_tell_99 rfl ?_
  refine GM.iast 0 (by decide) rfl dX12_tell_100 h (fun S1 h => ?_)
  refine Go.aload_n 0 dX12_tell_101 rfl ?_
  refine GM.geta 0 0 (by decide) rfl fl_a rfl dX12_tell_102 ?_
  refine Go.bipush 46 dX12_tell_105 (by decide) ?_
  refine Go.iconst 3 dX12_tell_107 (by decide) ?_
  refine Go.iload 4 dX12_tell_108 rfl ?_
  refine Go.imul dX12_tell_110 ?_
  refine Go.iadd dX12_tell_111 ?_
  refine Go.iconst 1 dX12_tell_112 (by decide) ?_
  refine Go.iadd dX12_tell_113 ?_
  refine Go.iload_n 2 dX12_tell_114 rfl ?_
  refine GM.iast 0 (by decide) rfl dX12_tell_115 h (fun S2 h => ?_)
  refine Go.aload_n 0 dX12_tell_116 rfl ?_
  refine GM.geta 0 0 (by decide) rfl fl_a rfl dX12_tell_117 ?_
  refine Go.bipush 46 dX12_tell_120 (by decide) ?_
  refine Go.iconst 3 dX12_tell_122 (by decide) ?_
  refine Go.iload 4 dX12_tell_123 rfl ?_
  refine Go.imul dX12_tell_125 ?_
  refine Go.iadd dX12_tell_126 ?_
  refine Go.iconst 2 dX12_tell_127 (by decide) ?_
  refine Go.iadd dX12_tell_128 ?_
  refine Go.iload_n 3 dX12_tell_129 rfl ?_
  refine GM.iast 0 (by decide) rfl dX12_tell_130 h (fun S3 h => ?_)
  refine Go.aload_n 0 dX12_tell_131 rfl ?_
  refine GM.callvu (rest := []) [] dX12_tell_132 ck_buildNow ci_buildNow (rt_buildNow ) rfl rfl (Nat.le_of_ble_eq_true rfl) (Nat.le_of_ble_eq_true rfl) (Nat.le_of_ble_eq_true rfl) h (fun S4 h => ?_)
  refine Go.aload_n 0 dX12_tell_135 rfl ?_
  refine GM.geta 0 0 (by decide) rfl fl_a rfl dX12_tell_136 ?_
  refine Go.iconst 5 dX12_tell_139 (by decide) ?_
  refine GM.iald 0 (by decide) rfl dX12_tell_140 h (fun v5 h => ?_)
  cases h
  exact Go.iret dX12_tell_141 rfl
set_option maxRecDepth 20000 in
theorem rs_tell_60 {l : Launch} {κ : KMt} {Z : Int32 × MS} (x1 : Int32) (x2 : Int32) (x3 : Int32) (x4 : Int32) (S : MS) (h : r_tell_60 x1 x2 x3 x4 S = some Z) : Go l (EM κ) RX12 cX12_tell 5 (some .int) 11 277 0 0 (some (.int Z.1)) Z.2 60 [(0, .ref κ.o), (1, .int x1), (2, .int x2), (3, .int x3), (4, .int x4)] [] S := by
  unfold r_tell_60 at h
  refine Go.aload_n 0 dX12_tell_60 rfl ?_
  refine GM.callvu (rest := []) [] dX12_tell_61 ck_keep ci_keep (rt_keep ) rfl rfl (Nat.le_of_ble_eq_true rfl) (Nat.le_of_ble_eq_true rfl) (Nat.le_of_ble_eq_true rfl) h (fun S6 h => ?_)
  refine Go.iload 4 dX12_tell_64 rfl ?_
  refine Go.iconst (-1) dX12_tell_66 (by decide) ?_
  refine Go.icmp_ne 88 dX12_tell_67 (by decide) h (fun h => ?_) (fun h => ?_)
  · exact rs_tell_88 _ _ _ _ _ h
  · refine Go.aload_n 0 dX12_tell_70 rfl ?_
    refine GM.geta 0 0 (by decide) rfl fl_a rfl dX12_tell_71 ?_
    refine Go.iconst 5 dX12_tell_74 (by decide) ?_
    refine GM.iald 0 (by decide) rfl dX12_tell_75 h (fun v7 h => ?_)
    refine Go.istore [(0, .ref κ.o), (1, .int x1), (2, .int x2), (3, .int x3), (4, .int v7)] dX12_tell_76 (by decide) rfl ?_
    refine Go.aload_n 0 dX12_tell_78 rfl ?_
    refine GM.geta 0 0 (by decide) rfl fl_a rfl dX12_tell_79 ?_
    refine Go.iconst 5 dX12_tell_82 (by decide) ?_
    refine Go.dup2 dX12_tell_83 rfl rfl ?_
    refine GM.iald 0 (by decide) rfl dX12_tell_84 h (fun v8 h => ?_)
    refine Go.iconst 1 dX12_tell_85 (by decide) ?_
    refine Go.iadd dX12_tell_86 ?_
    refine GM.iast 0 (by decide) rfl dX12_tell_87 h (fun S9 h => ?_)
    exact rs_tell_88 _ _ _ _ _ h
set_option maxRecDepth 20000 in
theorem rs_tell {l : Launch} {κ : KMt} {S : MS} {Z : Int32 × MS} (x1 : Int32) (x2 : Int32) (x3 : Int32) (h : r_tell S x1 x2 x3 = some Z) : Go l (EM κ) RX12 cX12_tell 5 (some .int) 11 277 0 0 (some (.int Z.1)) Z.2 0 [(0, .ref κ.o), (1, .int x1), (2, .int x2), (3, .int x3)] [] S := by
  unfold r_tell at h
  refine Go.aload_n 0 dX12_tell_0 rfl ?_
  refine Go.iload_n 1 dX12_tell_1 rfl ?_
  refine GM.callvr (rest := []) [.int x1] dX12_tell_2 ck_isThing ci_isThing (rt_isThing _) rfl rfl (Nat.le_of_ble_eq_true rfl) (Nat.le_of_ble_eq_true rfl) (Nat.le_of_ble_eq_true rfl) h (fun v10 h => ?_)
  refine Go.if_eq 31 dX12_tell_5 (by decide) h (fun h => ?_) (fun h => ?_)
  · refine Go.iconst (-1) dX12_tell_31 (by decide) ?_
    cases h
    exact Go.iret dX12_tell_32 rfl
  · refine Go.aload_n 0 dX12_tell_8 rfl ?_
    refine Go.iload_n 2 dX12_tell_9 rfl ?_
    refine GM.callvr (rest := []) [.int x2] dX12_tell_10 ck_isThing ci_isThing (rt_isThing _) rfl rfl (Nat.le_of_ble_eq_true rfl) (Nat.le_of_ble_eq_true rfl) (Nat.le_of_ble_eq_true rfl) h (fun v11 h => ?_)
    refine Go.if_eq 31 dX12_tell_13 (by decide) h (fun h => ?_) (fun h => ?_)
    · refine Go.iconst (-1) dX12_tell_31 (by decide) ?_
      cases h
      exact Go.iret dX12_tell_32 rfl
    · refine Go.iload_n 1 dX12_tell_16 rfl ?_
      refine Go.iload_n 2 dX12_tell_17 rfl ?_
      refine Go.icmp_eq 31 dX12_tell_18 (by decide) h (fun h => ?_) (fun h => ?_)
      · refine Go.iconst (-1) dX12_tell_31 (by decide) ?_
        cases h
        exact Go.iret dX12_tell_32 rfl
      · refine Go.iload_n 3 dX12_tell_21 rfl ?_
        refine Go.iconst 0 dX12_tell_22 (by decide) ?_
        refine Go.bipush 99 dX12_tell_23 (by decide) ?_
        refine GM.callsr (rest := []) [.int x3, .int 0, .int 99] dX12_tell_25 ck_isIn ci_isIn (rt_isIn _ _ _) rfl rfl (Nat.le_of_ble_eq_true rfl) (Nat.le_of_ble_eq_true rfl) (Nat.le_of_ble_eq_true rfl) h (fun v12 h => ?_)
        refine Go.if_ne 33 dX12_tell_28 (by decide) h (fun h => ?_) (fun h => ?_)
        · refine Go.aload_n 0 dX12_tell_33 rfl ?_
          refine Go.iload_n 1 dX12_tell_34 rfl ?_
          refine Go.iload_n 2 dX12_tell_35 rfl ?_
          refine GM.callvr (rest := []) [.int x1, .int x2] dX12_tell_36 ck_toldAt ci_toldAt (rt_toldAt _ _) rfl rfl (Nat.le_of_ble_eq_true rfl) (Nat.le_of_ble_eq_true rfl) (Nat.le_of_ble_eq_true rfl) h (fun v13 h => ?_)
          refine Go.istore [(0, .ref κ.o), (1, .int x1), (2, .int x2), (3, .int x3), (4, .int v13)] dX12_tell_39 (by decide) rfl ?_
          refine Go.iload 4 dX12_tell_41 rfl ?_
          refine Go.iconst (-1) dX12_tell_43 (by decide) ?_
          refine Go.icmp_ne 60 dX12_tell_44 (by decide) h (fun h => ?_) (fun h => ?_)
          · exact rs_tell_60 _ _ _ _ _ h
          · refine Go.aload_n 0 dX12_tell_47 rfl ?_
            refine GM.geta 0 0 (by decide) rfl fl_a rfl dX12_tell_48 ?_
            refine Go.iconst 5 dX12_tell_51 (by decide) ?_
            refine GM.iald 0 (by decide) rfl dX12_tell_52 h (fun v14 h => ?_)
            refine Go.bipush 16 dX12_tell_53 (by decide) ?_
            refine Go.icmp_ne 60 dX12_tell_55 (by decide) h (fun h => ?_) (fun h => ?_)
            · exact rs_tell_60 _ _ _ _ _ h
            · refine Go.iconst (-1) dX12_tell_58 (by decide) ?_
              cases h
              exact Go.iret dX12_tell_59 rfl
        · refine Go.iconst (-1) dX12_tell_31 (by decide) ?_
          cases h
          exact Go.iret dX12_tell_32 rfl
set_option maxRecDepth 20000 in
theorem rt_tell {l : Launch} {κ : KMt} {S : MS} (x1 : Int32) (x2 : Int32) (x3 : Int32) : ∀ Z, r_tell S x1 x2 x3 = some Z → MtM l κ yX12_tell cX12_tell 5 (some .int) 11 277 [.ref κ.o, .int x1, .int x2, .int x3] S (some (.int Z.1)) Z.2 := fun Z h => MtM.of (by decide +kernel) rfl (Nat.le_of_ble_eq_true rfl) ⟨rfl, rfl, rfl, rfl, trivial⟩ (rs_tell x1 x2 x3 h)
/-! wipe -/
def r_wipe_13  : Nat → Int32 → Int32 → MS → Option (Int32 × MS)
  | 0, _, _, _ => none
  | n + 1, x1, x2, S => if 48 ≤ x2 then (wr S 0 5 0).bind (fun S1 => (r_buildNow S1 ).bind (fun S2 => some (x1, S2))) else (wr S 0 (46 + x2) 0).bind (fun S3 => r_wipe_13 n x1 (x2 + 1) S3)
def r_wipe (S : MS)  : Option (Int32 × MS) := (r_keep S ).bind (fun S4 => (rd S4 0 5).bind (fun v5 => r_wipe_13 FU v5 0 S4))
set_option maxRecDepth 20000 in
theorem rs_wipe_13 {l : Launch} {κ : KMt} {Z : Int32 × MS} (n : Nat) : ∀ (x1 : Int32) (x2 : Int32) (S : MS), r_wipe_13 n x1 x2 S = some Z → Go l (EM κ) RX12 cX12_wipe 3 (some .int) 11 277 0 0 (some (.int Z.1)) Z.2 13 [(0, .ref κ.o), (1, .int x1), (2, .int x2)] [] S := by
  induction n with
  | zero => intro x1 x2 S h; rw [r_wipe_13] at h; cases h
  | succ n ih =>
    intro x1 x2 S h
    rw [r_wipe_13] at h
    refine Go.iload_n 2 dX12_wipe_13 rfl ?_
    refine Go.bipush 48 dX12_wipe_14 (by decide) ?_
    refine Go.icmp_ge 35 dX12_wipe_16 (by decide) h (fun h => ?_) (fun h => ?_)
    · refine Go.aload_n 0 dX12_wipe_35 rfl ?_
      refine GM.geta 0 0 (by decide) rfl fl_a rfl dX12_wipe_36 ?_
      refine Go.iconst 5 dX12_wipe_39 (by decide) ?_
      refine Go.iconst 0 dX12_wipe_40 (by decide) ?_
      refine GM.iast 0 (by decide) rfl dX12_wipe_41 h (fun S1 h => ?_)
      refine Go.aload_n 0 dX12_wipe_42 rfl ?_
      refine GM.callvu (rest := []) [] dX12_wipe_43 ck_buildNow ci_buildNow (rt_buildNow ) rfl rfl (Nat.le_of_ble_eq_true rfl) (Nat.le_of_ble_eq_true rfl) (Nat.le_of_ble_eq_true rfl) h (fun S2 h => ?_)
      refine Go.iload_n 1 dX12_wipe_46 rfl ?_
      cases h
      exact Go.iret dX12_wipe_47 rfl
    · refine Go.aload_n 0 dX12_wipe_19 rfl ?_
      refine GM.geta 0 0 (by decide) rfl fl_a rfl dX12_wipe_20 ?_
      refine Go.bipush 46 dX12_wipe_23 (by decide) ?_
      refine Go.iload_n 2 dX12_wipe_25 rfl ?_
      refine Go.iadd dX12_wipe_26 ?_
      refine Go.iconst 0 dX12_wipe_27 (by decide) ?_
      refine GM.iast 0 (by decide) rfl dX12_wipe_28 h (fun S3 h => ?_)
      refine Go.iinc (w := 1) 2 [(0, .ref κ.o), (1, .int x1), (2, .int (x2 + 1))] dX12_wipe_29 rfl (by decide) (by decide) rfl ?_
      refine Go.goto 13 dX12_wipe_32 (by decide) ?_
      exact ih _ _ _ h
set_option maxRecDepth 20000 in
theorem rs_wipe {l : Launch} {κ : KMt} {S : MS} {Z : Int32 × MS}  (h : r_wipe S  = some Z) : Go l (EM κ) RX12 cX12_wipe 3 (some .int) 11 277 0 0 (some (.int Z.1)) Z.2 0 [(0, .ref κ.o)] [] S := by
  unfold r_wipe at h
  refine Go.aload_n 0 dX12_wipe_0 rfl ?_
  refine GM.callvu (rest := []) [] dX12_wipe_1 ck_keep ci_keep (rt_keep ) rfl rfl (Nat.le_of_ble_eq_true rfl) (Nat.le_of_ble_eq_true rfl) (Nat.le_of_ble_eq_true rfl) h (fun S4 h => ?_)
  refine Go.aload_n 0 dX12_wipe_4 rfl ?_
  refine GM.geta 0 0 (by decide) rfl fl_a rfl dX12_wipe_5 ?_
  refine Go.iconst 5 dX12_wipe_8 (by decide) ?_
  refine GM.iald 0 (by decide) rfl dX12_wipe_9 h (fun v5 h => ?_)
  refine Go.istore_n [(0, .ref κ.o), (1, .int v5)] dX12_wipe_10 (by decide) rfl ?_
  refine Go.iconst 0 dX12_wipe_11 (by decide) ?_
  refine Go.istore_n [(0, .ref κ.o), (1, .int v5), (2, .int 0)] dX12_wipe_12 (by decide) rfl ?_
  exact rs_wipe_13 _ _ _ _ h
set_option maxRecDepth 20000 in
theorem rt_wipe {l : Launch} {κ : KMt} {S : MS}  : ∀ Z, r_wipe S  = some Z → MtM l κ yX12_wipe cX12_wipe 3 (some .int) 11 277 [.ref κ.o] S (some (.int Z.1)) Z.2 := fun Z h => MtM.of (by decide +kernel) rfl (Nat.le_of_ble_eq_true rfl) ⟨rfl, trivial⟩ (rs_wipe  h)
/-! pages -/
def r_pages_26 (S : MS) (k4 : Int32 → Int32 → Option (Int32)) (x2 : Int32) (y0 : Int32) (y1 : Int32) : Option (Int32) := k4 (y0 + y1) (x2 + 1)
def r_pages_4 (S : MS)  : Nat → Int32 → Int32 → Option (Int32)
  | 0, _, _ => none
  | n + 1, x1, x2 => if 784 ≤ x2 then some x1 else (r_countOf S x2).bind (fun v1 => if v1 = (-1) then r_pages_26 S (r_pages_4 S n) x2 x1 0 else r_pages_26 S (r_pages_4 S n) x2 x1 1)
def r_pages (S : MS)  : Option (Int32) := r_pages_4 S FU 0 0
set_option maxRecDepth 20000 in
theorem rs_pages_26 {l : Launch} {κ : KMt} {S : MS} {Z : Int32} (k4 : Int32 → Int32 → Option (Int32)) (h4 : ∀ (x1 : Int32) (x2 : Int32), k4 x1 x2 = some Z → Go l (EM κ) RX12 cX12_pages 3 (some .int) 2 43 0 0 (some (.int Z)) S 4 [(0, .ref κ.o), (1, .int x1), (2, .int x2)] [] S) (x2 : Int32) (y0 : Int32) (y1 : Int32) (h : r_pages_26 S k4 x2 y0 y1 = some Z) : Go l (EM κ) RX12 cX12_pages 3 (some .int) 2 43 0 0 (some (.int Z)) S 26 [(0, .ref κ.o), (2, .int x2)] [.int y1, .int y0] S := by
  unfold r_pages_26 at h
  refine Go.iadd dX12_pages_26 ?_
  refine Go.istore_n [(0, .ref κ.o), (1, .int (y0 + y1)), (2, .int x2)] dX12_pages_27 (by decide) rfl ?_
  refine Go.iinc (w := 1) 2 [(0, .ref κ.o), (1, .int (y0 + y1)), (2, .int (x2 + 1))] dX12_pages_28 rfl (by decide) (by decide) rfl ?_
  refine Go.goto 4 dX12_pages_31 (by decide) ?_
  exact h4 _ _ h
set_option maxRecDepth 20000 in
theorem rs_pages_4 {l : Launch} {κ : KMt} {S : MS} {Z : Int32} (n : Nat) : ∀ (x1 : Int32) (x2 : Int32), r_pages_4 S n x1 x2 = some Z → Go l (EM κ) RX12 cX12_pages 3 (some .int) 2 43 0 0 (some (.int Z)) S 4 [(0, .ref κ.o), (1, .int x1), (2, .int x2)] [] S := by
  induction n with
  | zero => intro x1 x2 h; rw [r_pages_4] at h; cases h
  | succ n ih =>
    intro x1 x2 h
    rw [r_pages_4] at h
    refine Go.iload_n 2 dX12_pages_4 rfl ?_
    refine Go.sipush 784 dX12_pages_5 (by decide) ?_
    refine Go.icmp_ge 34 dX12_pages_8 (by decide) h (fun h => ?_) (fun h => ?_)
    · refine Go.iload_n 1 dX12_pages_34 rfl ?_
      cases h
      exact Go.iret dX12_pages_35 rfl
    · refine Go.iload_n 1 dX12_pages_11 rfl ?_
      refine Go.aload_n 0 dX12_pages_12 rfl ?_
      refine Go.iload_n 2 dX12_pages_13 rfl ?_
      refine GM.callvr (rest := [.int x1]) [.int x2] dX12_pages_14 ck_countOf ci_countOf (rt_countOf _) rfl rfl (Nat.le_of_ble_eq_true rfl) (Nat.le_of_ble_eq_true rfl) (Nat.le_of_ble_eq_true rfl) h (fun v1 h => ?_)
      refine Go.iconst (-1) dX12_pages_17 (by decide) ?_
      refine Go.icmp_ne 25 dX12_pages_18 (by decide) h (fun h => ?_) (fun h => ?_)
      · refine Go.iconst 1 dX12_pages_25 (by decide) ?_
        refine Go.sub [0, 2] rfl ?_
        exact rs_pages_26 _ ih _ _ _ h
      · refine Go.iconst 0 dX12_pages_21 (by decide) ?_
        refine Go.goto 26 dX12_pages_22 (by decide) ?_
        refine Go.sub [0, 2] rfl ?_
        exact rs_pages_26 _ ih _ _ _ h
set_option maxRecDepth 20000 in
theorem rs_pages {l : Launch} {κ : KMt} {S : MS} {Z : Int32}  (h : r_pages S  = some Z) : Go l (EM κ) RX12 cX12_pages 3 (some .int) 2 43 0 0 (some (.int Z)) S 0 [(0, .ref κ.o)] [] S := by
  unfold r_pages at h
  refine Go.iconst 0 dX12_pages_0 (by decide) ?_
  refine Go.istore_n [(0, .ref κ.o), (1, .int 0)] dX12_pages_1 (by decide) rfl ?_
  refine Go.iconst 0 dX12_pages_2 (by decide) ?_
  refine Go.istore_n [(0, .ref κ.o), (1, .int 0), (2, .int 0)] dX12_pages_3 (by decide) rfl ?_
  exact rs_pages_4 _ _ _ h
set_option maxRecDepth 20000 in
theorem rt_pages {l : Launch} {κ : KMt} {S : MS}  : ∀ Z, r_pages S  = some Z → MtM l κ yX12_pages cX12_pages 3 (some .int) 2 43 [.ref κ.o] S (some (.int Z)) S := fun Z h => MtM.of (by decide +kernel) rfl (Nat.le_of_ble_eq_true rfl) ⟨rfl, trivial⟩ (rs_pages  h)
/-! build -/
def r_build (S : MS)  : Option (Int32 × MS) := (r_keep S ).bind (fun S1 => (r_buildNow S1 ).bind (fun S2 => (r_pages S2 ).bind (fun v3 => some (v3, S2))))
set_option maxRecDepth 20000 in
theorem rs_build {l : Launch} {κ : KMt} {S : MS} {Z : Int32 × MS}  (h : r_build S  = some Z) : Go l (EM κ) RX12 cX12_build 1 (some .int) 11 277 0 0 (some (.int Z.1)) Z.2 0 [(0, .ref κ.o)] [] S := by
  unfold r_build at h
  refine Go.aload_n 0 dX12_build_0 rfl ?_
  refine GM.callvu (rest := []) [] dX12_build_1 ck_keep ci_keep (rt_keep ) rfl rfl (Nat.le_of_ble_eq_true rfl) (Nat.le_of_ble_eq_true rfl) (Nat.le_of_ble_eq_true rfl) h (fun S1 h => ?_)
  refine Go.aload_n 0 dX12_build_4 rfl ?_
  refine GM.callvu (rest := []) [] dX12_build_5 ck_buildNow ci_buildNow (rt_buildNow ) rfl rfl (Nat.le_of_ble_eq_true rfl) (Nat.le_of_ble_eq_true rfl) (Nat.le_of_ble_eq_true rfl) h (fun S2 h => ?_)
  refine Go.aload_n 0 dX12_build_8 rfl ?_
  refine GM.callvr (rest := []) [] dX12_build_9 ck_pages ci_pages (rt_pages ) rfl rfl (Nat.le_of_ble_eq_true rfl) (Nat.le_of_ble_eq_true rfl) (Nat.le_of_ble_eq_true rfl) h (fun v3 h => ?_)
  cases h
  exact Go.iret dX12_build_12 rfl
set_option maxRecDepth 20000 in
theorem rt_build {l : Launch} {κ : KMt} {S : MS}  : ∀ Z, r_build S  = some Z → MtM l κ yX12_build cX12_build 1 (some .int) 11 277 [.ref κ.o] S (some (.int Z.1)) Z.2 := fun Z h => MtM.of (by decide +kernel) rfl (Nat.le_of_ble_eq_true rfl) ⟨rfl, trivial⟩ (rs_build  h)
/-! spell -/
def r_spell (S : MS) (x1 : Int32) (x2 : Int32) : Option (Int32 × MS) := (r_isThing S x1).bind (fun v1 => if v1 = 0 then (zb 0).bind (fun w => some (w, S)) else (r_lettersOf S x2).bind (fun v2 => if v2 = (-1) then (zb 0).bind (fun w => some (w, S)) else (r_thingOf S x2).bind (fun v3 => if v3 = (-1) then (r_keep S ).bind (fun S4 => (r_dropNow S4 x1).bind (fun S5 => (wr S5 0 (6 + x1) x2).bind (fun S6 => (r_putNow S6 x1).bind (fun S7 => (zb 1).bind (fun w => some (w, S7)))))) else (zb 0).bind (fun w => some (w, S)))))
set_option maxRecDepth 20000 in
theorem rs_spell {l : Launch} {κ : KMt} {S : MS} {Z : Int32 × MS} (x1 : Int32) (x2 : Int32) (h : r_spell S x1 x2 = some Z) : Go l (EM κ) RX12 cX12_spell 3 (some .boolean) 12 299 0 0 (some (.int Z.1)) Z.2 0 [(0, .ref κ.o), (1, .int x1), (2, .int x2)] [] S := by
  unfold r_spell at h
  refine Go.aload_n 0 dX12_spell_0 rfl ?_
  refine Go.iload_n 1 dX12_spell_1 rfl ?_
  refine GM.callvr (rest := []) [.int x1] dX12_spell_2 ck_isThing ci_isThing (rt_isThing _) rfl rfl (Nat.le_of_ble_eq_true rfl) (Nat.le_of_ble_eq_true rfl) (Nat.le_of_ble_eq_true rfl) h (fun v1 h => ?_)
  refine Go.if_eq 25 dX12_spell_5 (by decide) h (fun h => ?_) (fun h => ?_)
  · refine Go.iconst 0 dX12_spell_25 (by decide) ?_
    obtain ⟨w, hw, h⟩ := Option.bind_eq_some_iff.mp h
    cases h
    exact Go.zret dX12_spell_26 rfl hw
  · refine Go.iload_n 2 dX12_spell_8 rfl ?_
    refine GM.callsr (rest := []) [.int x2] dX12_spell_9 ck_lettersOf ci_lettersOf (rt_lettersOf _) rfl rfl (Nat.le_of_ble_eq_true rfl) (Nat.le_of_ble_eq_true rfl) (Nat.le_of_ble_eq_true rfl) h (fun v2 h => ?_)
    refine Go.iconst (-1) dX12_spell_12 (by decide) ?_
    refine Go.icmp_eq 25 dX12_spell_13 (by decide) h (fun h => ?_) (fun h => ?_)
    · refine Go.iconst 0 dX12_spell_25 (by decide) ?_
      obtain ⟨w, hw, h⟩ := Option.bind_eq_some_iff.mp h
      cases h
      exact Go.zret dX12_spell_26 rfl hw
    · refine Go.aload_n 0 dX12_spell_16 rfl ?_
      refine Go.iload_n 2 dX12_spell_17 rfl ?_
      refine GM.callvr (rest := []) [.int x2] dX12_spell_18 ck_thingOf ci_thingOf (rt_thingOf _) rfl rfl (Nat.le_of_ble_eq_true rfl) (Nat.le_of_ble_eq_true rfl) (Nat.le_of_ble_eq_true rfl) h (fun v3 h => ?_)
      refine Go.iconst (-1) dX12_spell_21 (by decide) ?_
      refine Go.icmp_eq 27 dX12_spell_22 (by decide) h (fun h => ?_) (fun h => ?_)
      · refine Go.aload_n 0 dX12_spell_27 rfl ?_
        refine GM.callvu (rest := []) [] dX12_spell_28 ck_keep ci_keep (rt_keep ) rfl rfl (Nat.le_of_ble_eq_true rfl) (Nat.le_of_ble_eq_true rfl) (Nat.le_of_ble_eq_true rfl) h (fun S4 h => ?_)
        refine Go.aload_n 0 dX12_spell_31 rfl ?_
        refine Go.iload_n 1 dX12_spell_32 rfl ?_
        refine GM.callvu (rest := []) [.int x1] dX12_spell_33 ck_dropNow ci_dropNow (rt_dropNow _) rfl rfl (Nat.le_of_ble_eq_true rfl) (Nat.le_of_ble_eq_true rfl) (Nat.le_of_ble_eq_true rfl) h (fun S5 h => ?_)
        refine Go.aload_n 0 dX12_spell_36 rfl ?_
        refine GM.geta 0 0 (by decide) rfl fl_a rfl dX12_spell_37 ?_
        refine Go.bipush 6 dX12_spell_40 (by decide) ?_
        refine Go.iload_n 1 dX12_spell_42 rfl ?_
        refine Go.iadd dX12_spell_43 ?_
        refine Go.iload_n 2 dX12_spell_44 rfl ?_
        refine GM.iast 0 (by decide) rfl dX12_spell_45 h (fun S6 h => ?_)
        refine Go.aload_n 0 dX12_spell_46 rfl ?_
        refine Go.iload_n 1 dX12_spell_47 rfl ?_
        refine GM.callvu (rest := []) [.int x1] dX12_spell_48 ck_putNow ci_putNow (rt_putNow _) rfl rfl (Nat.le_of_ble_eq_true rfl) (Nat.le_of_ble_eq_true rfl) (Nat.le_of_ble_eq_true rfl) h (fun S7 h => ?_)
        refine Go.iconst 1 dX12_spell_51 (by decide) ?_
        obtain ⟨w, hw, h⟩ := Option.bind_eq_some_iff.mp h
        cases h
        exact Go.zret dX12_spell_52 rfl hw
      · refine Go.iconst 0 dX12_spell_25 (by decide) ?_
        obtain ⟨w, hw, h⟩ := Option.bind_eq_some_iff.mp h
        cases h
        exact Go.zret dX12_spell_26 rfl hw
set_option maxRecDepth 20000 in
theorem rt_spell {l : Launch} {κ : KMt} {S : MS} (x1 : Int32) (x2 : Int32) : ∀ Z, r_spell S x1 x2 = some Z → MtM l κ yX12_spell cX12_spell 3 (some .boolean) 12 299 [.ref κ.o, .int x1, .int x2] S (some (.int Z.1)) Z.2 := fun Z h => MtM.of (by decide +kernel) rfl (Nat.le_of_ble_eq_true rfl) ⟨rfl, rfl, rfl, trivial⟩ (rs_spell x1 x2 h)
/-! layBelow -/
def r_layBelow_88 (k11 : Int32 → Int32 → MS → Option (Int32 × MS)) (k29 : Int32 → Int32 → Int32 → Int32 → MS → Option (Int32 × MS)) (x2 : Int32) (x3 : Int32) (x4 : Int32) (x5 : Int32) (S : MS) : Option (Int32 × MS) := k29 x2 x3 x4 (x5 + 1) S
def r_layBelow_29 (k11 : Int32 → Int32 → MS → Option (Int32 × MS)) : Nat → Int32 → Int32 → Int32 → Int32 → MS → Option (Int32 × MS)
  | 0, _, _, _, _, _ => none
  | n + 1, x2, x3, x4, x5, S => (r_countOf S x4).bind (fun v1 => if v1 ≤ x5 then k11 x2 x3 S else (r_isLeaf S x4).bind (fun v2 => if v2 = 0 then (r_entryOf S x4 x5 3).bind (fun v3 => (wr S 9 x3 v3).bind (fun S4 => r_layBelow_88 k11 (r_layBelow_29 k11 n) x2 (x3 + 1) x4 x5 S4)) else (r_entryOf S x4 x5 0).bind (fun v5 => (wr S 8 x2 v5).bind (fun S6 => r_layBelow_88 k11 (r_layBelow_29 k11 n) (x2 + 1) x3 x4 x5 S6))))
def r_layBelow_11  : Nat → Int32 → Int32 → MS → Option (Int32 × MS)
  | 0, _, _, _ => none
  | n + 1, x2, x3, S => if x3 ≤ 0 then some (x2, S) else (rd S 9 (x3 + (-1))).bind (fun v7 => r_layBelow_29 (r_layBelow_11 n) FU x2 (x3 + (-1)) v7 0 S)
def r_layBelow (S : MS) (x1 : Int32) : Option (Int32 × MS) := (wr S 9 0 x1).bind (fun S8 => r_layBelow_11 FU 0 1 S8)
set_option maxRecDepth 20000 in
theorem rs_layBelow_88 {l : Launch} {κ : KMt} {Z : Int32 × MS} (k11 : Int32 → Int32 → MS → Option (Int32 × MS)) (h11 : ∀ (x2 : Int32) (x3 : Int32) (S : MS), k11 x2 x3 S = some Z → Go l (EM κ) RX12 cX12_layBelow 6 (some .int) 2 45 0 0 (some (.int Z.1)) Z.2 11 [(0, .ref κ.o), (2, .int x2), (3, .int x3)] [] S) (k29 : Int32 → Int32 → Int32 → Int32 → MS → Option (Int32 × MS)) (h29 : ∀ (x2 : Int32) (x3 : Int32) (x4 : Int32) (x5 : Int32) (S : MS), k29 x2 x3 x4 x5 S = some Z → Go l (EM κ) RX12 cX12_layBelow 6 (some .int) 2 45 0 0 (some (.int Z.1)) Z.2 29 [(0, .ref κ.o), (2, .int x2), (3, .int x3), (4, .int x4), (5, .int x5)] [] S) (x2 : Int32) (x3 : Int32) (x4 : Int32) (x5 : Int32) (S : MS) (h : r_layBelow_88 k11 k29 x2 x3 x4 x5 S = some Z) : Go l (EM κ) RX12 cX12_layBelow 6 (some .int) 2 45 0 0 (some (.int Z.1)) Z.2 88 [(0, .ref κ.o), (2, .int x2), (3, .int x3), (4, .int x4), (5, .int x5)] [] S := by
  unfold r_layBelow_88 at h
  refine Go.iinc (w := 1) 4 [(0, .ref κ.o), (2, .int x2), (3, .int x3), (4, .int x4), (5, .int (x5 + 1))] dX12_layBelow_88 rfl (by decide) (by decide) rfl ?_
  refine Go.goto 29 dX12_layBelow_91 (by decide) ?_
  exact h29 _ _ _ _ _ h
set_option maxRecDepth 20000 in
theorem rs_layBelow_29 {l : Launch} {κ : KMt} {Z : Int32 × MS} (k11 : Int32 → Int32 → MS → Option (Int32 × MS)) (h11 : ∀ (x2 : Int32) (x3 : Int32) (S : MS), k11 x2 x3 S = some Z → Go l (EM κ) RX12 cX12_layBelow 6 (some .int) 2 45 0 0 (some (.int Z.1)) Z.2 11 [(0, .ref κ.o), (2, .int x2), (3, .int x3)] [] S) (n : Nat) : ∀ (x2 : Int32) (x3 : Int32) (x4 : Int32) (x5 : Int32) (S : MS), r_layBelow_29 k11 n x2 x3 x4 x5 S = some Z → Go l (EM κ) RX12 cX12_layBelow 6 (some .int) 2 45 0 0 (some (.int Z.1)) Z.2 29 [(0, .ref κ.o), (2, .int x2), (3, .int x3), (4, .int x4), (5, .int x5)] [] S := by
  induction n with
  | zero => intro x2 x3 x4 x5 S h; rw [r_layBelow_29] at h; cases h
  | succ n ih =>
    intro x2 x3 x4 x5 S h
    rw [r_layBelow_29] at h
    refine Go.iload 4 dX12_layBelow_29 rfl ?_
    refine Go.aload_n 0 dX12_layBelow_31 rfl ?_
    refine Go.iload 3 dX12_layBelow_32 rfl ?_
    refine GM.callvr (rest := [.int x5]) [.int x4] dX12_layBelow_34 ck_countOf ci_countOf (rt_countOf _) rfl rfl (Nat.le_of_ble_eq_true rfl) (Nat.le_of_ble_eq_true rfl) (Nat.le_of_ble_eq_true rfl) h (fun v1 h => ?_)
    refine Go.icmp_ge 94 dX12_layBelow_37 (by decide) h (fun h => ?_) (fun h => ?_)
    · refine Go.goto 11 dX12_layBelow_94 (by decide) ?_
      refine Go.sub [0, 1, 2] rfl ?_
      exact h11 _ _ _ h
    · refine Go.aload_n 0 dX12_layBelow_40 rfl ?_
      refine Go.iload 3 dX12_layBelow_41 rfl ?_
      refine GM.callvr (rest := []) [.int x4] dX12_layBelow_43 ck_isLeaf ci_isLeaf (rt_isLeaf _) rfl rfl (Nat.le_of_ble_eq_true rfl) (Nat.le_of_ble_eq_true rfl) (Nat.le_of_ble_eq_true rfl) h (fun v2 h => ?_)
      refine Go.if_eq 70 dX12_layBelow_46 (by decide) h (fun h => ?_) (fun h => ?_)
      · refine Go.aload_n 0 dX12_layBelow_70 rfl ?_
        refine GM.geta 16 9 (by decide) rfl fl_stack rfl dX12_layBelow_71 ?_
        refine Go.iload_n 2 dX12_layBelow_74 rfl ?_
        refine Go.aload_n 0 dX12_layBelow_75 rfl ?_
        refine Go.iload 3 dX12_layBelow_76 rfl ?_
        refine Go.iload 4 dX12_layBelow_78 rfl ?_
        refine Go.iconst 3 dX12_layBelow_80 (by decide) ?_
        refine GM.callvr (rest := [.int x3, .ref (κ.o + 1 + 9)]) [.int x4, .int x5, .int 3] dX12_layBelow_81 ck_entryOf ci_entryOf (rt_entryOf _ _ _) rfl rfl (Nat.le_of_ble_eq_true rfl) (Nat.le_of_ble_eq_true rfl) (Nat.le_of_ble_eq_true rfl) h (fun v3 h => ?_)
        refine GM.iast 9 (by decide) rfl dX12_layBelow_84 h (fun S4 h => ?_)
        refine Go.iinc (w := 1) 2 [(0, .ref κ.o), (2, .int x2), (3, .int (x3 + 1)), (4, .int x4), (5, .int x5)] dX12_layBelow_85 rfl (by decide) (by decide) rfl ?_
        exact rs_layBelow_88 _ h11 _ ih _ _ _ _ _ h
      · refine Go.aload_n 0 dX12_layBelow_49 rfl ?_
        refine GM.geta 15 8 (by decide) rfl fl_below rfl dX12_layBelow_50 ?_
        refine Go.iload_n 1 dX12_layBelow_53 rfl ?_
        refine Go.aload_n 0 dX12_layBelow_54 rfl ?_
        refine Go.iload 3 dX12_layBelow_55 rfl ?_
        refine Go.iload 4 dX12_layBelow_57 rfl ?_
        refine Go.iconst 0 dX12_layBelow_59 (by decide) ?_
        refine GM.callvr (rest := [.int x2, .ref (κ.o + 1 + 8)]) [.int x4, .int x5, .int 0] dX12_layBelow_60 ck_entryOf ci_entryOf (rt_entryOf _ _ _) rfl rfl (Nat.le_of_ble_eq_true rfl) (Nat.le_of_ble_eq_true rfl) (Nat.le_of_ble_eq_true rfl) h (fun v5 h => ?_)
        refine GM.iast 8 (by decide) rfl dX12_layBelow_63 h (fun S6 h => ?_)
        refine Go.iinc (w := 1) 1 [(0, .ref κ.o), (2, .int (x2 + 1)), (3, .int x3), (4, .int x4), (5, .int x5)] dX12_layBelow_64 rfl (by decide) (by decide) rfl ?_
        refine Go.goto 88 dX12_layBelow_67 (by decide) ?_
        exact rs_layBelow_88 _ h11 _ ih _ _ _ _ _ h
set_option maxRecDepth 20000 in
theorem rs_layBelow_11 {l : Launch} {κ : KMt} {Z : Int32 × MS} (n : Nat) : ∀ (x2 : Int32) (x3 : Int32) (S : MS), r_layBelow_11 n x2 x3 S = some Z → Go l (EM κ) RX12 cX12_layBelow 6 (some .int) 2 45 0 0 (some (.int Z.1)) Z.2 11 [(0, .ref κ.o), (2, .int x2), (3, .int x3)] [] S := by
  induction n with
  | zero => intro x2 x3 S h; rw [r_layBelow_11] at h; cases h
  | succ n ih =>
    intro x2 x3 S h
    rw [r_layBelow_11] at h
    refine Go.iload_n 2 dX12_layBelow_11 rfl ?_
    refine Go.if_le 97 dX12_layBelow_12 (by decide) h (fun h => ?_) (fun h => ?_)
    · refine Go.iload_n 1 dX12_layBelow_97 rfl ?_
      cases h
      exact Go.iret dX12_layBelow_98 rfl
    · refine Go.iinc (w := (-1)) 2 [(0, .ref κ.o), (2, .int x2), (3, .int (x3 + (-1)))] dX12_layBelow_15 rfl (by decide) (by decide) rfl ?_
      refine Go.aload_n 0 dX12_layBelow_18 rfl ?_
      refine GM.geta 16 9 (by decide) rfl fl_stack rfl dX12_layBelow_19 ?_
      refine Go.iload_n 2 dX12_layBelow_22 rfl ?_
      refine GM.iald 9 (by decide) rfl dX12_layBelow_23 h (fun v7 h => ?_)
      refine Go.istore [(0, .ref κ.o), (2, .int x2), (3, .int (x3 + (-1))), (4, .int v7)] dX12_layBelow_24 (by decide) rfl ?_
      refine Go.iconst 0 dX12_layBelow_26 (by decide) ?_
      refine Go.istore [(0, .ref κ.o), (2, .int x2), (3, .int (x3 + (-1))), (4, .int v7), (5, .int 0)] dX12_layBelow_27 (by decide) rfl ?_
      exact rs_layBelow_29 _ ih _ _ _ _ _ _ h
set_option maxRecDepth 20000 in
theorem rs_layBelow {l : Launch} {κ : KMt} {S : MS} {Z : Int32 × MS} (x1 : Int32) (h : r_layBelow S x1 = some Z) : Go l (EM κ) RX12 cX12_layBelow 6 (some .int) 2 45 0 0 (some (.int Z.1)) Z.2 0 [(0, .ref κ.o), (1, .int x1)] [] S := by
  unfold r_layBelow at h
  refine Go.iconst 0 dX12_layBelow_0 (by decide) ?_
  refine Go.istore_n [(0, .ref κ.o), (1, .int x1), (2, .int 0)] dX12_layBelow_1 (by decide) rfl ?_
  refine Go.iconst 1 dX12_layBelow_2 (by decide) ?_
  refine Go.istore_n [(0, .ref κ.o), (1, .int x1), (2, .int 0), (3, .int 1)] dX12_layBelow_3 (by decide) rfl ?_
  refine Go.aload_n 0 dX12_layBelow_4 rfl ?_
  refine GM.geta 16 9 (by decide) rfl fl_stack rfl dX12_layBelow_5 ?_
  refine Go.iconst 0 dX12_layBelow_8 (by decide) ?_
  refine Go.iload_n 1 dX12_layBelow_9 rfl ?_
  refine GM.iast 9 (by decide) rfl dX12_layBelow_10 h (fun S8 h => ?_)
  refine Go.sub [0, 2, 3] rfl ?_
  exact rs_layBelow_11 _ _ _ _ h
set_option maxRecDepth 20000 in
theorem rt_layBelow {l : Launch} {κ : KMt} {S : MS} (x1 : Int32) : ∀ Z, r_layBelow S x1 = some Z → MtM l κ yX12_layBelow cX12_layBelow 6 (some .int) 2 45 [.ref κ.o, .int x1] S (some (.int Z.1)) Z.2 := fun Z h => MtM.of (by decide +kernel) rfl (Nat.le_of_ble_eq_true rfl) ⟨rfl, rfl, trivial⟩ (rs_layBelow x1 h)
