/-! chosen -/
def r_chosen_118 (k11 : Int32 → Int32 → Int32 → Int32 → Int32 → Int32 → MS → Option (Int32 × MS)) (x1 : Int32) (x2 : Int32) (x3 : Int32) (x4 : Int32) (x5 : Int32) (x6 : Int32) (S : MS) : Option (Int32 × MS) := k11 x1 x2 x3 x4 x5 (x6 + 1) S
def r_chosen_107 (k11 : Int32 → Int32 → Int32 → Int32 → Int32 → Int32 → MS → Option (Int32 × MS)) (x1 : Int32) (x2 : Int32) (x6 : Int32) (x9 : Int32) (x10 : Int32) (S : MS) : Option (Int32 × MS) := r_chosen_118 k11 x1 x2 x6 x10 x9 x6 S
def r_chosen_90 (k11 : Int32 → Int32 → Int32 → Int32 → Int32 → Int32 → MS → Option (Int32 × MS)) (x1 : Int32) (x2 : Int32) (x3 : Int32) (x4 : Int32) (x5 : Int32) (x6 : Int32) (x9 : Int32) (x10 : Int32) (S : MS) : Option (Int32 × MS) := if x5 = x9 then if x10 < x4 then r_chosen_107 k11 x1 x2 x6 x9 x10 S else r_chosen_118 k11 x1 x2 x3 x4 x5 x6 S else r_chosen_107 k11 x1 x2 x6 x9 x10 S
def r_chosen_73 (k11 : Int32 → Int32 → Int32 → Int32 → Int32 → Int32 → MS → Option (Int32 × MS)) (x1 : Int32) (x2 : Int32) (x3 : Int32) (x4 : Int32) (x5 : Int32) (x6 : Int32) (x9 : Int32) (y0 : Int32) (S : MS) : Option (Int32 × MS) := if x3 = (-1) then r_chosen_107 k11 x1 x2 x6 x9 y0 S else if x5 = 0 then r_chosen_90 k11 x1 x2 x3 x4 x5 x6 x9 y0 S else if x9 = 0 then r_chosen_118 k11 x1 x2 x3 x4 x5 x6 S else r_chosen_90 k11 x1 x2 x3 x4 x5 x6 x9 y0 S
def r_chosen_59 (k11 : Int32 → Int32 → Int32 → Int32 → Int32 → Int32 → MS → Option (Int32 × MS)) (x1 : Int32) (x2 : Int32) (x3 : Int32) (x4 : Int32) (x5 : Int32) (x6 : Int32) (x7 : Int32) (x8 : Int32) (y0 : Int32) (S : MS) : Option (Int32 × MS) := if y0 = 0 then r_chosen_73 k11 x1 x2 x3 x4 x5 x6 y0 x8 S else r_chosen_73 k11 x1 x2 x3 x4 x5 x6 y0 x7 S
def r_chosen_11  : Nat → Int32 → Int32 → Int32 → Int32 → Int32 → Int32 → MS → Option (Int32 × MS)
  | 0, _, _, _, _, _, _, _ => none
  | n + 1, x1, x2, x3, x4, x5, x6, S => (r_countOf S x1).bind (fun v1 => if v1 ≤ x6 then some (x3, S) else (r_entryOf S x1 x6 0).bind (fun v2 => bd2 (r_farOf S v2 x2) (fun v3 S4 => (r_entryOf S4 x1 x6 1).bind (fun v5 => if 0 < (v3 - v5) then r_chosen_59 (r_chosen_11 n) x1 x2 x3 x4 x5 x6 v3 (v3 - v5) 0 S4 else r_chosen_59 (r_chosen_11 n) x1 x2 x3 x4 x5 x6 v3 (v3 - v5) 1 S4))))
def r_chosen (S : MS) (x1 : Int32) (x2 : Int32) : Option (Int32 × MS) := r_chosen_11 FU x1 x2 (-1) 0 0 0 S
set_option maxRecDepth 20000 in
theorem rs_chosen_118 {l : Launch} {κ : KMt} {Z : Int32 × MS} (k11 : Int32 → Int32 → Int32 → Int32 → Int32 → Int32 → MS → Option (Int32 × MS)) (h11 : ∀ (x1 : Int32) (x2 : Int32) (x3 : Int32) (x4 : Int32) (x5 : Int32) (x6 : Int32) (S : MS), k11 x1 x2 x3 x4 x5 x6 S = some Z → Go l (EM κ) RX12 cX12_chosen 11 (some .int) 6 143 0 0 (some (.int Z.1)) Z.2 11 [(0, .ref κ.o), (1, .int x1), (2, .int x2), (3, .int x3), (4, .int x4), (5, .int x5), (6, .int x6)] [] S) (x1 : Int32) (x2 : Int32) (x3 : Int32) (x4 : Int32) (x5 : Int32) (x6 : Int32) (S : MS) (h : r_chosen_118 k11 x1 x2 x3 x4 x5 x6 S = some Z) : Go l (EM κ) RX12 cX12_chosen 11 (some .int) 6 143 0 0 (some (.int Z.1)) Z.2 118 [(0, .ref κ.o), (1, .int x1), (2, .int x2), (3, .int x3), (4, .int x4), (5, .int x5), (6, .int x6)] [] S := by
  unfold r_chosen_118 at h
  refine Go.iinc (w := 1) 6 [(0, .ref κ.o), (1, .int x1), (2, .int x2), (3, .int x3), (4, .int x4), (5, .int x5), (6, .int (x6 + 1))] dX12_chosen_118 rfl (by decide) (by decide) rfl ?_
  refine Go.goto 11 dX12_chosen_121 (by decide) ?_
  exact h11 _ _ _ _ _ _ _ h
set_option maxRecDepth 20000 in
theorem rs_chosen_107 {l : Launch} {κ : KMt} {Z : Int32 × MS} (k11 : Int32 → Int32 → Int32 → Int32 → Int32 → Int32 → MS → Option (Int32 × MS)) (h11 : ∀ (x1 : Int32) (x2 : Int32) (x3 : Int32) (x4 : Int32) (x5 : Int32) (x6 : Int32) (S : MS), k11 x1 x2 x3 x4 x5 x6 S = some Z → Go l (EM κ) RX12 cX12_chosen 11 (some .int) 6 143 0 0 (some (.int Z.1)) Z.2 11 [(0, .ref κ.o), (1, .int x1), (2, .int x2), (3, .int x3), (4, .int x4), (5, .int x5), (6, .int x6)] [] S) (x1 : Int32) (x2 : Int32) (x6 : Int32) (x9 : Int32) (x10 : Int32) (S : MS) (h : r_chosen_107 k11 x1 x2 x6 x9 x10 S = some Z) : Go l (EM κ) RX12 cX12_chosen 11 (some .int) 6 143 0 0 (some (.int Z.1)) Z.2 107 [(0, .ref κ.o), (1, .int x1), (2, .int x2), (6, .int x6), (9, .int x9), (10, .int x10)] [] S := by
  unfold r_chosen_107 at h
  refine Go.iload 3 dX12_chosen_107 rfl ?_
  refine Go.istore_n [(0, .ref κ.o), (1, .int x1), (2, .int x2), (3, .int x6), (6, .int x6), (9, .int x9), (10, .int x10)] dX12_chosen_109 (by decide) rfl ?_
  refine Go.iload 6 dX12_chosen_110 rfl ?_
  refine Go.istore [(0, .ref κ.o), (1, .int x1), (2, .int x2), (3, .int x6), (4, .int x10), (6, .int x6), (9, .int x9), (10, .int x10)] dX12_chosen_112 (by decide) rfl ?_
  refine Go.iload 6 dX12_chosen_114 rfl ?_
  refine Go.istore [(0, .ref κ.o), (1, .int x1), (2, .int x2), (3, .int x6), (4, .int x10), (5, .int x9), (6, .int x6), (9, .int x9), (10, .int x10)] dX12_chosen_116 (by decide) rfl ?_
  refine Go.sub [0, 1, 2, 3, 4, 5, 6] rfl ?_
  exact rs_chosen_118 _ h11 _ _ _ _ _ _ _ h
set_option maxRecDepth 20000 in
theorem rs_chosen_90 {l : Launch} {κ : KMt} {Z : Int32 × MS} (k11 : Int32 → Int32 → Int32 → Int32 → Int32 → Int32 → MS → Option (Int32 × MS)) (h11 : ∀ (x1 : Int32) (x2 : Int32) (x3 : Int32) (x4 : Int32) (x5 : Int32) (x6 : Int32) (S : MS), k11 x1 x2 x3 x4 x5 x6 S = some Z → Go l (EM κ) RX12 cX12_chosen 11 (some .int) 6 143 0 0 (some (.int Z.1)) Z.2 11 [(0, .ref κ.o), (1, .int x1), (2, .int x2), (3, .int x3), (4, .int x4), (5, .int x5), (6, .int x6)] [] S) (x1 : Int32) (x2 : Int32) (x3 : Int32) (x4 : Int32) (x5 : Int32) (x6 : Int32) (x9 : Int32) (x10 : Int32) (S : MS) (h : r_chosen_90 k11 x1 x2 x3 x4 x5 x6 x9 x10 S = some Z) : Go l (EM κ) RX12 cX12_chosen 11 (some .int) 6 143 0 0 (some (.int Z.1)) Z.2 90 [(0, .ref κ.o), (1, .int x1), (2, .int x2), (3, .int x3), (4, .int x4), (5, .int x5), (6, .int x6), (9, .int x9), (10, .int x10)] [] S := by
  unfold r_chosen_90 at h
  refine Go.iload 5 dX12_chosen_90 rfl ?_
  refine Go.iload 7 dX12_chosen_92 rfl ?_
  refine Go.icmp_ne 107 dX12_chosen_94 (by decide) h (fun h => ?_) (fun h => ?_)
  · refine Go.sub [0, 1, 2, 6, 7, 8] rfl ?_
    exact rs_chosen_107 _ h11 _ _ _ _ _ _ h
  · refine Go.iload 8 dX12_chosen_97 rfl ?_
    refine Go.iload 4 dX12_chosen_99 rfl ?_
    refine Go.icmp_lt 107 dX12_chosen_101 (by decide) h (fun h => ?_) (fun h => ?_)
    · refine Go.sub [0, 1, 2, 6, 7, 8] rfl ?_
      exact rs_chosen_107 _ h11 _ _ _ _ _ _ h
    · refine Go.goto 118 dX12_chosen_104 (by decide) ?_
      refine Go.sub [0, 1, 2, 3, 4, 5, 6] rfl ?_
      exact rs_chosen_118 _ h11 _ _ _ _ _ _ _ h
set_option maxRecDepth 20000 in
theorem rs_chosen_73 {l : Launch} {κ : KMt} {Z : Int32 × MS} (k11 : Int32 → Int32 → Int32 → Int32 → Int32 → Int32 → MS → Option (Int32 × MS)) (h11 : ∀ (x1 : Int32) (x2 : Int32) (x3 : Int32) (x4 : Int32) (x5 : Int32) (x6 : Int32) (S : MS), k11 x1 x2 x3 x4 x5 x6 S = some Z → Go l (EM κ) RX12 cX12_chosen 11 (some .int) 6 143 0 0 (some (.int Z.1)) Z.2 11 [(0, .ref κ.o), (1, .int x1), (2, .int x2), (3, .int x3), (4, .int x4), (5, .int x5), (6, .int x6)] [] S) (x1 : Int32) (x2 : Int32) (x3 : Int32) (x4 : Int32) (x5 : Int32) (x6 : Int32) (x9 : Int32) (y0 : Int32) (S : MS) (h : r_chosen_73 k11 x1 x2 x3 x4 x5 x6 x9 y0 S = some Z) : Go l (EM κ) RX12 cX12_chosen 11 (some .int) 6 143 0 0 (some (.int Z.1)) Z.2 73 [(0, .ref κ.o), (1, .int x1), (2, .int x2), (3, .int x3), (4, .int x4), (5, .int x5), (6, .int x6), (9, .int x9)] [.int y0] S := by
  unfold r_chosen_73 at h
  refine Go.istore [(0, .ref κ.o), (1, .int x1), (2, .int x2), (3, .int x3), (4, .int x4), (5, .int x5), (6, .int x6), (9, .int x9), (10, .int y0)] dX12_chosen_73 (by decide) rfl ?_
  refine Go.iload_n 3 dX12_chosen_75 rfl ?_
  refine Go.iconst (-1) dX12_chosen_76 (by decide) ?_
  refine Go.icmp_eq 107 dX12_chosen_77 (by decide) h (fun h => ?_) (fun h => ?_)
  · refine Go.sub [0, 1, 2, 6, 7, 8] rfl ?_
    exact rs_chosen_107 _ h11 _ _ _ _ _ _ h
  · refine Go.iload 5 dX12_chosen_80 rfl ?_
    refine Go.if_eq 90 dX12_chosen_82 (by decide) h (fun h => ?_) (fun h => ?_)
    · exact rs_chosen_90 _ h11 _ _ _ _ _ _ _ _ _ h
    · refine Go.iload 7 dX12_chosen_85 rfl ?_
      refine Go.if_eq 118 dX12_chosen_87 (by decide) h (fun h => ?_) (fun h => ?_)
      · refine Go.sub [0, 1, 2, 3, 4, 5, 6] rfl ?_
        exact rs_chosen_118 _ h11 _ _ _ _ _ _ _ h
      · exact rs_chosen_90 _ h11 _ _ _ _ _ _ _ _ _ h
set_option maxRecDepth 20000 in
theorem rs_chosen_59 {l : Launch} {κ : KMt} {Z : Int32 × MS} (k11 : Int32 → Int32 → Int32 → Int32 → Int32 → Int32 → MS → Option (Int32 × MS)) (h11 : ∀ (x1 : Int32) (x2 : Int32) (x3 : Int32) (x4 : Int32) (x5 : Int32) (x6 : Int32) (S : MS), k11 x1 x2 x3 x4 x5 x6 S = some Z → Go l (EM κ) RX12 cX12_chosen 11 (some .int) 6 143 0 0 (some (.int Z.1)) Z.2 11 [(0, .ref κ.o), (1, .int x1), (2, .int x2), (3, .int x3), (4, .int x4), (5, .int x5), (6, .int x6)] [] S) (x1 : Int32) (x2 : Int32) (x3 : Int32) (x4 : Int32) (x5 : Int32) (x6 : Int32) (x7 : Int32) (x8 : Int32) (y0 : Int32) (S : MS) (h : r_chosen_59 k11 x1 x2 x3 x4 x5 x6 x7 x8 y0 S = some Z) : Go l (EM κ) RX12 cX12_chosen 11 (some .int) 6 143 0 0 (some (.int Z.1)) Z.2 59 [(0, .ref κ.o), (1, .int x1), (2, .int x2), (3, .int x3), (4, .int x4), (5, .int x5), (6, .int x6), (7, .int x7), (8, .int x8)] [.int y0] S := by
  unfold r_chosen_59 at h
  refine Go.istore [(0, .ref κ.o), (1, .int x1), (2, .int x2), (3, .int x3), (4, .int x4), (5, .int x5), (6, .int x6), (7, .int x7), (8, .int x8), (9, .int y0)] dX12_chosen_59 (by decide) rfl ?_
  refine Go.iload 9 dX12_chosen_61 rfl ?_
  refine Go.if_eq 71 dX12_chosen_63 (by decide) h (fun h => ?_) (fun h => ?_)
  · refine Go.iload 8 dX12_chosen_71 rfl ?_
    refine Go.sub [0, 1, 2, 3, 4, 5, 6, 9] rfl ?_
    exact rs_chosen_73 _ h11 _ _ _ _ _ _ _ _ _ h
  · refine Go.iload 7 dX12_chosen_66 rfl ?_
    refine Go.goto 73 dX12_chosen_68 (by decide) ?_
    refine Go.sub [0, 1, 2, 3, 4, 5, 6, 9] rfl ?_
    exact rs_chosen_73 _ h11 _ _ _ _ _ _ _ _ _ h
set_option maxRecDepth 20000 in
theorem rs_chosen_11 {l : Launch} {κ : KMt} {Z : Int32 × MS} (n : Nat) : ∀ (x1 : Int32) (x2 : Int32) (x3 : Int32) (x4 : Int32) (x5 : Int32) (x6 : Int32) (S : MS), r_chosen_11 n x1 x2 x3 x4 x5 x6 S = some Z → Go l (EM κ) RX12 cX12_chosen 11 (some .int) 6 143 0 0 (some (.int Z.1)) Z.2 11 [(0, .ref κ.o), (1, .int x1), (2, .int x2), (3, .int x3), (4, .int x4), (5, .int x5), (6, .int x6)] [] S := by
  induction n with
  | zero => intro x1 x2 x3 x4 x5 x6 S h; rw [r_chosen_11] at h; cases h
  | succ n ih =>
    intro x1 x2 x3 x4 x5 x6 S h
    rw [r_chosen_11] at h
    refine Go.iload 6 dX12_chosen_11 rfl ?_
    refine Go.aload_n 0 dX12_chosen_13 rfl ?_
    refine Go.iload_n 1 dX12_chosen_14 rfl ?_
    refine GM.callvr (rest := [.int x6]) [.int x1] dX12_chosen_15 ck_countOf ci_countOf (rt_countOf _) rfl rfl (Nat.le_of_ble_eq_true rfl) (Nat.le_of_ble_eq_true rfl) (Nat.le_of_ble_eq_true rfl) h (fun v1 h => ?_)
    refine Go.icmp_ge 124 dX12_chosen_18 (by decide) h (fun h => ?_) (fun h => ?_)
    · refine Go.iload_n 3 dX12_chosen_124 rfl ?_
      cases h
      exact Go.iret dX12_chosen_125 rfl
    · refine Go.aload_n 0 dX12_chosen_21 rfl ?_
      refine Go.aload_n 0 dX12_chosen_22 rfl ?_
      refine Go.iload_n 1 dX12_chosen_23 rfl ?_
      refine Go.iload 6 dX12_chosen_24 rfl ?_
      refine Go.iconst 0 dX12_chosen_26 (by decide) ?_
      refine GM.callvr (rest := [.ref κ.o]) [.int x1, .int x6, .int 0] dX12_chosen_27 ck_entryOf ci_entryOf (rt_entryOf _ _ _) rfl rfl (Nat.le_of_ble_eq_true rfl) (Nat.le_of_ble_eq_true rfl) (Nat.le_of_ble_eq_true rfl) h (fun v2 h => ?_)
      refine Go.iload_n 2 dX12_chosen_30 rfl ?_
      refine GM.callvw (rest := []) [.int v2, .int x2] dX12_chosen_31 ck_farOf ci_farOf (rt_farOf _ _) rfl rfl (Nat.le_of_ble_eq_true rfl) (Nat.le_of_ble_eq_true rfl) (Nat.le_of_ble_eq_true rfl) h (fun v3 S4 h => ?_)
      refine Go.istore [(0, .ref κ.o), (1, .int x1), (2, .int x2), (3, .int x3), (4, .int x4), (5, .int x5), (6, .int x6), (7, .int v3)] dX12_chosen_34 (by decide) rfl ?_
      refine Go.iload 7 dX12_chosen_36 rfl ?_
      refine Go.aload_n 0 dX12_chosen_38 rfl ?_
      refine Go.iload_n 1 dX12_chosen_39 rfl ?_
      refine Go.iload 6 dX12_chosen_40 rfl ?_
      refine Go.iconst 1 dX12_chosen_42 (by decide) ?_
      refine GM.callvr (rest := [.int v3]) [.int x1, .int x6, .int 1] dX12_chosen_43 ck_entryOf ci_entryOf (rt_entryOf _ _ _) rfl rfl (Nat.le_of_ble_eq_true rfl) (Nat.le_of_ble_eq_true rfl) (Nat.le_of_ble_eq_true rfl) h (fun v5 h => ?_)
      refine Go.isub dX12_chosen_46 ?_
      refine Go.istore [(0, .ref κ.o), (1, .int x1), (2, .int x2), (3, .int x3), (4, .int x4), (5, .int x5), (6, .int x6), (7, .int v3), (8, .int (v3 - v5))] dX12_chosen_47 (by decide) rfl ?_
      refine Go.iload 8 dX12_chosen_49 rfl ?_
      refine Go.if_gt 58 dX12_chosen_51 (by decide) h (fun h => ?_) (fun h => ?_)
      · refine Go.iconst 0 dX12_chosen_58 (by decide) ?_
        exact rs_chosen_59 _ ih _ _ _ _ _ _ _ _ _ _ h
      · refine Go.iconst 1 dX12_chosen_54 (by decide) ?_
        refine Go.goto 59 dX12_chosen_55 (by decide) ?_
        exact rs_chosen_59 _ ih _ _ _ _ _ _ _ _ _ _ h
set_option maxRecDepth 20000 in
theorem rs_chosen {l : Launch} {κ : KMt} {S : MS} {Z : Int32 × MS} (x1 : Int32) (x2 : Int32) (h : r_chosen S x1 x2 = some Z) : Go l (EM κ) RX12 cX12_chosen 11 (some .int) 6 143 0 0 (some (.int Z.1)) Z.2 0 [(0, .ref κ.o), (1, .int x1), (2, .int x2)] [] S := by
  unfold r_chosen at h
  refine Go.iconst (-1) dX12_chosen_0 (by decide) ?_
  refine Go.istore_n [(0, .ref κ.o), (1, .int x1), (2, .int x2), (3, .int (-1))] dX12_chosen_1 (by decide) rfl ?_
  refine Go.iconst 0 dX12_chosen_2 (by decide) ?_
  refine Go.istore [(0, .ref κ.o), (1, .int x1), (2, .int x2), (3, .int (-1)), (4, .int 0)] dX12_chosen_3 (by decide) rfl ?_
  refine Go.iconst 0 dX12_chosen_5 (by decide) ?_
  refine Go.istore [(0, .ref κ.o), (1, .int x1), (2, .int x2), (3, .int (-1)), (4, .int 0), (5, .int 0)] dX12_chosen_6 (by decide) rfl ?_
  refine Go.iconst 0 dX12_chosen_8 (by decide) ?_
  refine Go.istore [(0, .ref κ.o), (1, .int x1), (2, .int x2), (3, .int (-1)), (4, .int 0), (5, .int 0), (6, .int 0)] dX12_chosen_9 (by decide) rfl ?_
  exact rs_chosen_11 _ _ _ _ _ _ _ _ h
set_option maxRecDepth 20000 in
theorem rt_chosen {l : Launch} {κ : KMt} {S : MS} (x1 : Int32) (x2 : Int32) : ∀ Z, r_chosen S x1 x2 = some Z → MtM l κ yX12_chosen cX12_chosen 11 (some .int) 6 143 [.ref κ.o, .int x1, .int x2] S (some (.int Z.1)) Z.2 := fun Z h => MtM.of (by decide +kernel) rfl (Nat.le_of_ble_eq_true rfl) ⟨rfl, rfl, rfl, trivial⟩ (rs_chosen x1 x2 h)
/-! part -/
def r_part_198 (k25 : Int32 → Int32 → Int32 → Int32 → MS → Option (MS)) (x1 : Int32) (x2 : Int32) (x3 : Int32) (x4 : Int32) (S : MS) : Option (MS) := k25 x1 x2 x3 (x4 + 1) S
def r_part_176 (k25 : Int32 → Int32 → Int32 → Int32 → MS → Option (MS)) (x1 : Int32) (x2 : Int32) (x3 : Int32) (x4 : Int32) (x5 : Int32) (x6 : Int32) (x7 : Int32) (S : MS) : Option (MS) := if x6 < x5 then r_part_198 k25 x1 x2 x3 x4 S else if x7 ≤ (S.2 8) then r_part_198 k25 x1 x2 x3 x4 S else r_part_198 k25 x1 x2 x3 x4 (pf S 8 x7)
def r_part_143 (k25 : Int32 → Int32 → Int32 → Int32 → MS → Option (MS)) (x1 : Int32) (x2 : Int32) (x3 : Int32) (x4 : Int32) (x5 : Int32) (x6 : Int32) (y0 : Int32) (S : MS) : Option (MS) := (r_entryOf S x1 x4 1).bind (fun v1 => if x5 ≤ x6 then r_part_176 k25 x1 x2 x3 x4 x5 x6 (y0 + v1) S else if (y0 + v1) ≤ (S.2 9) then r_part_176 k25 x1 x2 x3 x4 x5 x6 (y0 + v1) S else r_part_176 k25 x1 x2 x3 x4 x5 x6 (y0 + v1) (pf S 9 (y0 + v1)))
def r_part_128 (k25 : Int32 → Int32 → Int32 → Int32 → MS → Option (MS)) (x1 : Int32) (x2 : Int32) (x3 : Int32) (x4 : Int32) (x5 : Int32) (x6 : Int32) (y1 : Int32) (y2 : Int32) (S : MS) : Option (MS) := (wr S 6 y1 (vp_nar .boolean y2)).bind (fun S2 => if x5 ≤ x6 then r_part_143 k25 x1 x2 x3 x4 x5 x6 x5 S2 else r_part_143 k25 x1 x2 x3 x4 x5 x6 x6 S2)
def r_part_52 (k25 : Int32 → Int32 → Int32 → Int32 → MS → Option (MS)) (x1 : Int32) (x2 : Int32) (x3 : Int32) (x4 : Int32) (y1 : Int32) (y2 : Int32) (S : MS) : Option (MS) := (wr S 6 y1 (vp_nar .boolean y2)).bind (fun S3 => if x4 = x2 then r_part_198 k25 x1 x2 x3 x4 S3 else if x4 = x3 then r_part_198 k25 x1 x2 x3 x4 S3 else (r_entryOf S3 x1 x2 0).bind (fun v4 => (r_entryOf S3 x1 x4 0).bind (fun v5 => bd2 (r_farOf S3 v4 v5) (fun v6 S7 => (r_entryOf S7 x1 x3 0).bind (fun v8 => (r_entryOf S7 x1 x4 0).bind (fun v9 => bd2 (r_farOf S7 v8 v9) (fun v10 S11 => if v6 ≤ v10 then r_part_128 k25 x1 x2 x3 x4 v6 v10 x4 0 S11 else r_part_128 k25 x1 x2 x3 x4 v6 v10 x4 1 S11)))))))
def r_part_25  : Nat → Int32 → Int32 → Int32 → Int32 → MS → Option (MS)
  | 0, _, _, _, _, _ => none
  | n + 1, x1, x2, x3, x4, S => (r_countOf S x1).bind (fun v12 => if v12 ≤ x4 then some S else if x4 = x3 then r_part_52 (r_part_25 n) x1 x2 x3 x4 x4 1 S else r_part_52 (r_part_25 n) x1 x2 x3 x4 x4 0 S)
def r_part (S : MS) (x1 : Int32) (x2 : Int32) (x3 : Int32) : Option (MS) := (r_entryOf S x1 x2 1).bind (fun v13 => (r_entryOf (pf S 8 v13) x1 x3 1).bind (fun v14 => r_part_25 FU x1 x2 x3 0 (pf (pf S 8 v13) 9 v14)))
set_option maxRecDepth 20000 in
theorem rs_part_198 {l : Launch} {κ : KMt} {Z : MS} (k25 : Int32 → Int32 → Int32 → Int32 → MS → Option (MS)) (h25 : ∀ (x1 : Int32) (x2 : Int32) (x3 : Int32) (x4 : Int32) (S : MS), k25 x1 x2 x3 x4 S = some Z → Go l (EM κ) RX12 cX12_part 8 none 6 143 0 0 none Z 25 [(0, .ref κ.o), (1, .int x1), (2, .int x2), (3, .int x3), (4, .int x4)] [] S) (x1 : Int32) (x2 : Int32) (x3 : Int32) (x4 : Int32) (S : MS) (h : r_part_198 k25 x1 x2 x3 x4 S = some Z) : Go l (EM κ) RX12 cX12_part 8 none 6 143 0 0 none Z 198 [(0, .ref κ.o), (1, .int x1), (2, .int x2), (3, .int x3), (4, .int x4)] [] S := by
  unfold r_part_198 at h
  refine Go.iinc (w := 1) 4 [(0, .ref κ.o), (1, .int x1), (2, .int x2), (3, .int x3), (4, .int (x4 + 1))] dX12_part_198 rfl (by decide) (by decide) rfl ?_
  refine Go.goto 25 dX12_part_201 (by decide) ?_
  exact h25 _ _ _ _ _ h
set_option maxRecDepth 20000 in
theorem rs_part_176 {l : Launch} {κ : KMt} {Z : MS} (k25 : Int32 → Int32 → Int32 → Int32 → MS → Option (MS)) (h25 : ∀ (x1 : Int32) (x2 : Int32) (x3 : Int32) (x4 : Int32) (S : MS), k25 x1 x2 x3 x4 S = some Z → Go l (EM κ) RX12 cX12_part 8 none 6 143 0 0 none Z 25 [(0, .ref κ.o), (1, .int x1), (2, .int x2), (3, .int x3), (4, .int x4)] [] S) (x1 : Int32) (x2 : Int32) (x3 : Int32) (x4 : Int32) (x5 : Int32) (x6 : Int32) (x7 : Int32) (S : MS) (h : r_part_176 k25 x1 x2 x3 x4 x5 x6 x7 S = some Z) : Go l (EM κ) RX12 cX12_part 8 none 6 143 0 0 none Z 176 [(0, .ref κ.o), (1, .int x1), (2, .int x2), (3, .int x3), (4, .int x4), (5, .int x5), (6, .int x6), (7, .int x7)] [] S := by
  unfold r_part_176 at h
  refine Go.iload 5 dX12_part_176 rfl ?_
  refine Go.iload 6 dX12_part_178 rfl ?_
  refine Go.icmp_gt 198 dX12_part_180 (by decide) h (fun h => ?_) (fun h => ?_)
  · refine Go.sub [0, 1, 2, 3, 4] rfl ?_
    exact rs_part_198 _ h25 _ _ _ _ _ h
  · refine Go.iload 7 dX12_part_183 rfl ?_
    refine Go.aload_n 0 dX12_part_185 rfl ?_
    refine GM.geti 8 (by decide) rfl fl_reachOne rfl dX12_part_186 ?_
    refine Go.icmp_le 198 dX12_part_189 (by decide) h (fun h => ?_) (fun h => ?_)
    · refine Go.sub [0, 1, 2, 3, 4] rfl ?_
      exact rs_part_198 _ h25 _ _ _ _ _ h
    · refine Go.aload_n 0 dX12_part_192 rfl ?_
      refine Go.iload 7 dX12_part_193 rfl ?_
      refine GM.puti 8 (by decide) rfl fl_reachOne rfl rfl rfl rfl dX12_part_195 ?_
      refine Go.sub [0, 1, 2, 3, 4] rfl ?_
      exact rs_part_198 _ h25 _ _ _ _ _ h
set_option maxRecDepth 20000 in
theorem rs_part_143 {l : Launch} {κ : KMt} {Z : MS} (k25 : Int32 → Int32 → Int32 → Int32 → MS → Option (MS)) (h25 : ∀ (x1 : Int32) (x2 : Int32) (x3 : Int32) (x4 : Int32) (S : MS), k25 x1 x2 x3 x4 S = some Z → Go l (EM κ) RX12 cX12_part 8 none 6 143 0 0 none Z 25 [(0, .ref κ.o), (1, .int x1), (2, .int x2), (3, .int x3), (4, .int x4)] [] S) (x1 : Int32) (x2 : Int32) (x3 : Int32) (x4 : Int32) (x5 : Int32) (x6 : Int32) (y0 : Int32) (S : MS) (h : r_part_143 k25 x1 x2 x3 x4 x5 x6 y0 S = some Z) : Go l (EM κ) RX12 cX12_part 8 none 6 143 0 0 none Z 143 [(0, .ref κ.o), (1, .int x1), (2, .int x2), (3, .int x3), (4, .int x4), (5, .int x5), (6, .int x6)] [.int y0] S := by
  unfold r_part_143 at h
  refine Go.aload_n 0 dX12_part_143 rfl ?_
  refine Go.iload_n 1 dX12_part_144 rfl ?_
  refine Go.iload 4 dX12_part_145 rfl ?_
  refine Go.iconst 1 dX12_part_147 (by decide) ?_
  refine GM.callvr (rest := [.int y0]) [.int x1, .int x4, .int 1] dX12_part_148 ck_entryOf ci_entryOf (rt_entryOf _ _ _) rfl rfl (Nat.le_of_ble_eq_true rfl) (Nat.le_of_ble_eq_true rfl) (Nat.le_of_ble_eq_true rfl) h (fun v1 h => ?_)
  refine Go.iadd dX12_part_151 ?_
  refine Go.istore [(0, .ref κ.o), (1, .int x1), (2, .int x2), (3, .int x3), (4, .int x4), (5, .int x5), (6, .int x6), (7, .int (y0 + v1))] dX12_part_152 (by decide) rfl ?_
  refine Go.iload 5 dX12_part_154 rfl ?_
  refine Go.iload 6 dX12_part_156 rfl ?_
  refine Go.icmp_le 176 dX12_part_158 (by decide) h (fun h => ?_) (fun h => ?_)
  · exact rs_part_176 _ h25 _ _ _ _ _ _ _ _ h
  · refine Go.iload 7 dX12_part_161 rfl ?_
    refine Go.aload_n 0 dX12_part_163 rfl ?_
    refine GM.geti 9 (by decide) rfl fl_reachTwo rfl dX12_part_164 ?_
    refine Go.icmp_le 176 dX12_part_167 (by decide) h (fun h => ?_) (fun h => ?_)
    · exact rs_part_176 _ h25 _ _ _ _ _ _ _ _ h
    · refine Go.aload_n 0 dX12_part_170 rfl ?_
      refine Go.iload 7 dX12_part_171 rfl ?_
      refine GM.puti 9 (by decide) rfl fl_reachTwo rfl rfl rfl rfl dX12_part_173 ?_
      exact rs_part_176 _ h25 _ _ _ _ _ _ _ _ h
set_option maxRecDepth 20000 in
theorem rs_part_128 {l : Launch} {κ : KMt} {Z : MS} (k25 : Int32 → Int32 → Int32 → Int32 → MS → Option (MS)) (h25 : ∀ (x1 : Int32) (x2 : Int32) (x3 : Int32) (x4 : Int32) (S : MS), k25 x1 x2 x3 x4 S = some Z → Go l (EM κ) RX12 cX12_part 8 none 6 143 0 0 none Z 25 [(0, .ref κ.o), (1, .int x1), (2, .int x2), (3, .int x3), (4, .int x4)] [] S) (x1 : Int32) (x2 : Int32) (x3 : Int32) (x4 : Int32) (x5 : Int32) (x6 : Int32) (y1 : Int32) (y2 : Int32) (S : MS) (h : r_part_128 k25 x1 x2 x3 x4 x5 x6 y1 y2 S = some Z) : Go l (EM κ) RX12 cX12_part 8 none 6 143 0 0 none Z 128 [(0, .ref κ.o), (1, .int x1), (2, .int x2), (3, .int x3), (4, .int x4), (5, .int x5), (6, .int x6)] [.int y2, .int y1, .ref (κ.o + 1 + 6)] S := by
  unfold r_part_128 at h
  refine GM.zast 6 (by decide) rfl dX12_part_128 h (fun S2 h => ?_)
  refine Go.iload 5 dX12_part_129 rfl ?_
  refine Go.iload 6 dX12_part_131 rfl ?_
  refine Go.icmp_le 141 dX12_part_133 (by decide) h (fun h => ?_) (fun h => ?_)
  · refine Go.iload 5 dX12_part_141 rfl ?_
    exact rs_part_143 _ h25 _ _ _ _ _ _ _ _ h
  · refine Go.iload 6 dX12_part_136 rfl ?_
    refine Go.goto 143 dX12_part_138 (by decide) ?_
    exact rs_part_143 _ h25 _ _ _ _ _ _ _ _ h
set_option maxRecDepth 20000 in
theorem rs_part_52 {l : Launch} {κ : KMt} {Z : MS} (k25 : Int32 → Int32 → Int32 → Int32 → MS → Option (MS)) (h25 : ∀ (x1 : Int32) (x2 : Int32) (x3 : Int32) (x4 : Int32) (S : MS), k25 x1 x2 x3 x4 S = some Z → Go l (EM κ) RX12 cX12_part 8 none 6 143 0 0 none Z 25 [(0, .ref κ.o), (1, .int x1), (2, .int x2), (3, .int x3), (4, .int x4)] [] S) (x1 : Int32) (x2 : Int32) (x3 : Int32) (x4 : Int32) (y1 : Int32) (y2 : Int32) (S : MS) (h : r_part_52 k25 x1 x2 x3 x4 y1 y2 S = some Z) : Go l (EM κ) RX12 cX12_part 8 none 6 143 0 0 none Z 52 [(0, .ref κ.o), (1, .int x1), (2, .int x2), (3, .int x3), (4, .int x4)] [.int y2, .int y1, .ref (κ.o + 1 + 6)] S := by
  unfold r_part_52 at h
  refine GM.zast 6 (by decide) rfl dX12_part_52 h (fun S3 h => ?_)
  refine Go.iload 4 dX12_part_53 rfl ?_
  refine Go.iload_n 2 dX12_part_55 rfl ?_
  refine Go.icmp_eq 198 dX12_part_56 (by decide) h (fun h => ?_) (fun h => ?_)
  · exact rs_part_198 _ h25 _ _ _ _ _ h
  · refine Go.iload 4 dX12_part_59 rfl ?_
    refine Go.iload_n 3 dX12_part_61 rfl ?_
    refine Go.icmp_ne 68 dX12_part_62 (by decide) h (fun h => ?_) (fun h => ?_)
    · refine Go.aload_n 0 dX12_part_68 rfl ?_
      refine Go.aload_n 0 dX12_part_69 rfl ?_
      refine Go.iload_n 1 dX12_part_70 rfl ?_
      refine Go.iload_n 2 dX12_part_71 rfl ?_
      refine Go.iconst 0 dX12_part_72 (by decide) ?_
      refine GM.callvr (rest := [.ref κ.o]) [.int x1, .int x2, .int 0] dX12_part_73 ck_entryOf ci_entryOf (rt_entryOf _ _ _) rfl rfl (Nat.le_of_ble_eq_true rfl) (Nat.le_of_ble_eq_true rfl) (Nat.le_of_ble_eq_true rfl) h (fun v4 h => ?_)
      refine Go.aload_n 0 dX12_part_76 rfl ?_
      refine Go.iload_n 1 dX12_part_77 rfl ?_
      refine Go.iload 4 dX12_part_78 rfl ?_
      refine Go.iconst 0 dX12_part_80 (by decide) ?_
      refine GM.callvr (rest := [.int v4, .ref κ.o]) [.int x1, .int x4, .int 0] dX12_part_81 ck_entryOf ci_entryOf (rt_entryOf _ _ _) rfl rfl (Nat.le_of_ble_eq_true rfl) (Nat.le_of_ble_eq_true rfl) (Nat.le_of_ble_eq_true rfl) h (fun v5 h => ?_)
      refine GM.callvw (rest := []) [.int v4, .int v5] dX12_part_84 ck_farOf ci_farOf (rt_farOf _ _) rfl rfl (Nat.le_of_ble_eq_true rfl) (Nat.le_of_ble_eq_true rfl) (Nat.le_of_ble_eq_true rfl) h (fun v6 S7 h => ?_)
      refine Go.istore [(0, .ref κ.o), (1, .int x1), (2, .int x2), (3, .int x3), (4, .int x4), (5, .int v6)] dX12_part_87 (by decide) rfl ?_
      refine Go.aload_n 0 dX12_part_89 rfl ?_
      refine Go.aload_n 0 dX12_part_90 rfl ?_
      refine Go.iload_n 1 dX12_part_91 rfl ?_
      refine Go.iload_n 3 dX12_part_92 rfl ?_
      refine Go.iconst 0 dX12_part_93 (by decide) ?_
      refine GM.callvr (rest := [.ref κ.o]) [.int x1, .int x3, .int 0] dX12_part_94 ck_entryOf ci_entryOf (rt_entryOf _ _ _) rfl rfl (Nat.le_of_ble_eq_true rfl) (Nat.le_of_ble_eq_true rfl) (Nat.le_of_ble_eq_true rfl) h (fun v8 h => ?_)
      refine Go.aload_n 0 dX12_part_97 rfl ?_
      refine Go.iload_n 1 dX12_part_98 rfl ?_
      refine Go.iload 4 dX12_part_99 rfl ?_
      refine Go.iconst 0 dX12_part_101 (by decide) ?_
      refine GM.callvr (rest := [.int v8, .ref κ.o]) [.int x1, .int x4, .int 0] dX12_part_102 ck_entryOf ci_entryOf (rt_entryOf _ _ _) rfl rfl (Nat.le_of_ble_eq_true rfl) (Nat.le_of_ble_eq_true rfl) (Nat.le_of_ble_eq_true rfl) h (fun v9 h => ?_)
      refine GM.callvw (rest := []) [.int v8, .int v9] dX12_part_105 ck_farOf ci_farOf (rt_farOf _ _) rfl rfl (Nat.le_of_ble_eq_true rfl) (Nat.le_of_ble_eq_true rfl) (Nat.le_of_ble_eq_true rfl) h (fun v10 S11 h => ?_)
      refine Go.istore [(0, .ref κ.o), (1, .int x1), (2, .int x2), (3, .int x3), (4, .int x4), (5, .int v6), (6, .int v10)] dX12_part_108 (by decide) rfl ?_
      refine Go.aload_n 0 dX12_part_110 rfl ?_
      refine GM.geta 6 6 (by decide) rfl fl_isSecond rfl dX12_part_111 ?_
      refine Go.iload 4 dX12_part_114 rfl ?_
      refine Go.iload 5 dX12_part_116 rfl ?_
      refine Go.iload 6 dX12_part_118 rfl ?_
      refine Go.icmp_le 127 dX12_part_120 (by decide) h (fun h => ?_) (fun h => ?_)
      · refine Go.iconst 0 dX12_part_127 (by decide) ?_
        exact rs_part_128 _ h25 _ _ _ _ _ _ _ _ _ h
      · refine Go.iconst 1 dX12_part_123 (by decide) ?_
        refine Go.goto 128 dX12_part_124 (by decide) ?_
        exact rs_part_128 _ h25 _ _ _ _ _ _ _ _ _ h
    · refine Go.goto 198 dX12_part_65 (by decide) ?_
      exact rs_part_198 _ h25 _ _ _ _ _ h
set_option maxRecDepth 20000 in
theorem rs_part_25 {l : Launch} {κ : KMt} {Z : MS} (n : Nat) : ∀ (x1 : Int32) (x2 : Int32) (x3 : Int32) (x4 : Int32) (S : MS), r_part_25 n x1 x2 x3 x4 S = some Z → Go l (EM κ) RX12 cX12_part 8 none 6 143 0 0 none Z 25 [(0, .ref κ.o), (1, .int x1), (2, .int x2), (3, .int x3), (4, .int x4)] [] S := by
  induction n with
  | zero => intro x1 x2 x3 x4 S h; rw [r_part_25] at h; cases h
  | succ n ih =>
    intro x1 x2 x3 x4 S h
    rw [r_part_25] at h
    refine Go.iload 4 dX12_part_25 rfl ?_
    refine Go.aload_n 0 dX12_part_27 rfl ?_
    refine Go.iload_n 1 dX12_part_28 rfl ?_
    refine GM.callvr (rest := [.int x4]) [.int x1] dX12_part_29 ck_countOf ci_countOf (rt_countOf _) rfl rfl (Nat.le_of_ble_eq_true rfl) (Nat.le_of_ble_eq_true rfl) (Nat.le_of_ble_eq_true rfl) h (fun v12 h => ?_)
    refine Go.icmp_ge 204 dX12_part_32 (by decide) h (fun h => ?_) (fun h => ?_)
    · cases h
      exact Go.vret dX12_part_204 rfl
    · refine Go.aload_n 0 dX12_part_35 rfl ?_
      refine GM.geta 6 6 (by decide) rfl fl_isSecond rfl dX12_part_36 ?_
      refine Go.iload 4 dX12_part_39 rfl ?_
      refine Go.iload 4 dX12_part_41 rfl ?_
      refine Go.iload_n 3 dX12_part_43 rfl ?_
      refine Go.icmp_ne 51 dX12_part_44 (by decide) h (fun h => ?_) (fun h => ?_)
      · refine Go.iconst 0 dX12_part_51 (by decide) ?_
        exact rs_part_52 _ ih _ _ _ _ _ _ _ h
      · refine Go.iconst 1 dX12_part_47 (by decide) ?_
        refine Go.goto 52 dX12_part_48 (by decide) ?_
        exact rs_part_52 _ ih _ _ _ _ _ _ _ h
set_option maxRecDepth 20000 in
theorem rs_part {l : Launch} {κ : KMt} {S : MS} {Z : MS} (x1 : Int32) (x2 : Int32) (x3 : Int32) (h : r_part S x1 x2 x3 = some Z) : Go l (EM κ) RX12 cX12_part 8 none 6 143 0 0 none Z 0 [(0, .ref κ.o), (1, .int x1), (2, .int x2), (3, .int x3)] [] S := by
  unfold r_part at h
  refine Go.aload_n 0 dX12_part_0 rfl ?_
  refine Go.aload_n 0 dX12_part_1 rfl ?_
  refine Go.iload_n 1 dX12_part_2 rfl ?_
  refine Go.iload_n 2 dX12_part_3 rfl ?_
  refine Go.iconst 1 dX12_part_4 (by decide) ?_
  refine GM.callvr (rest := [.ref κ.o]) [.int x1, .int x2, .int 1] dX12_part_5 ck_entryOf ci_entryOf (rt_entryOf _ _ _) rfl rfl (Nat.le_of_ble_eq_true rfl) (Nat.le_of_ble_eq_true rfl) (Nat.le_of_ble_eq_true rfl) h (fun v13 h => ?_)
  refine GM.puti 8 (by decide) rfl fl_reachOne rfl rfl rfl rfl dX12_part_8 ?_
  refine Go.aload_n 0 dX12_part_11 rfl ?_
  refine Go.aload_n 0 dX12_part_12 rfl ?_
  refine Go.iload_n 1 dX12_part_13 rfl ?_
  refine Go.iload_n 3 dX12_part_14 rfl ?_
  refine Go.iconst 1 dX12_part_15 (by decide) ?_
  refine GM.callvr (rest := [.ref κ.o]) [.int x1, .int x3, .int 1] dX12_part_16 ck_entryOf ci_entryOf (rt_entryOf _ _ _) rfl rfl (Nat.le_of_ble_eq_true rfl) (Nat.le_of_ble_eq_true rfl) (Nat.le_of_ble_eq_true rfl) h (fun v14 h => ?_)
  refine GM.puti 9 (by decide) rfl fl_reachTwo rfl rfl rfl rfl dX12_part_19 ?_
  refine Go.iconst 0 dX12_part_22 (by decide) ?_
  refine Go.istore [(0, .ref κ.o), (1, .int x1), (2, .int x2), (3, .int x3), (4, .int 0)] dX12_part_23 (by decide) rfl ?_
  exact rs_part_25 _ _ _ _ _ _ h
set_option maxRecDepth 20000 in
theorem rt_part {l : Launch} {κ : KMt} {S : MS} (x1 : Int32) (x2 : Int32) (x3 : Int32) : ∀ Z, r_part S x1 x2 x3 = some Z → MtM l κ yX12_part cX12_part 8 none 6 143 [.ref κ.o, .int x1, .int x2, .int x3] S none Z := fun Z h => MtM.of (by decide +kernel) rfl (Nat.le_of_ble_eq_true rfl) ⟨rfl, rfl, rfl, rfl, trivial⟩ (rs_part x1 x2 x3 h)
/-! findTwo -/
def r_findTwo_132 (k12 : Int32 → Int32 → Int32 → Int32 → MS → Option (MS)) (k24 : Int32 → Int32 → Int32 → Int32 → Int32 → MS → Option (MS)) (x1 : Int32) (x2 : Int32) (x3 : Int32) (x4 : Int32) (x5 : Int32) (S : MS) : Option (MS) := k24 x1 x2 x3 x4 (x5 + 1) S
def r_findTwo_106 (k12 : Int32 → Int32 → Int32 → Int32 → MS → Option (MS)) (k24 : Int32 → Int32 → Int32 → Int32 → Int32 → MS → Option (MS)) : Nat → Int32 → Int32 → Int32 → Int32 → Int32 → Int32 → MS → Option (MS)
  | 0, _, _, _, _, _, _, _ => none
  | n + 1, x1, x2, x3, x4, x5, x7, S => if x2 ≤ x7 then r_findTwo_132 k12 k24 x1 x2 x3 x4 x5 S else (rd S 6 x7).bind (fun v1 => (wr S 7 x7 (vp_nar .boolean v1)).bind (fun S2 => r_findTwo_106 k12 k24 n x1 x2 x3 x4 x5 (x7 + 1) S2))
def r_findTwo_61 (k12 : Int32 → Int32 → Int32 → Int32 → MS → Option (MS)) (k24 : Int32 → Int32 → Int32 → Int32 → Int32 → MS → Option (MS)) (x1 : Int32) (x2 : Int32) (x3 : Int32) (x4 : Int32) (x5 : Int32) (y0 : Int32) (S : MS) : Option (MS) := if y0 < x3 then r_findTwo_106 k12 k24 FU x1 x2 y0 x4 x5 0 (pf (pf (pf (pf S 10 x4) 11 x5) 12 ((pf (pf S 10 x4) 11 x5).2 8)) 13 ((pf (pf (pf S 10 x4) 11 x5) 12 ((pf (pf S 10 x4) 11 x5).2 8)).2 9)) else r_findTwo_132 k12 k24 x1 x2 x3 x4 x5 S
def r_findTwo_24 (k12 : Int32 → Int32 → Int32 → Int32 → MS → Option (MS)) : Nat → Int32 → Int32 → Int32 → Int32 → Int32 → MS → Option (MS)
  | 0, _, _, _, _, _, _ => none
  | n + 1, x1, x2, x3, x4, x5, S => if x2 ≤ x5 then k12 x1 x2 x3 (x4 + 1) S else (r_part S x1 x4 x5).bind (fun S3 => if (S3.2 8) ≤ (S3.2 9) then r_findTwo_61 k12 (r_findTwo_24 k12 n) x1 x2 x3 x4 x5 (S3.2 9) S3 else r_findTwo_61 k12 (r_findTwo_24 k12 n) x1 x2 x3 x4 x5 (S3.2 8) S3)
def r_findTwo_12  : Nat → Int32 → Int32 → Int32 → Int32 → MS → Option (MS)
  | 0, _, _, _, _, _ => none
  | n + 1, x1, x2, x3, x4, S => if x2 ≤ x4 then some S else r_findTwo_24 (r_findTwo_12 n) FU x1 x2 x3 x4 (x4 + 1) S
def r_findTwo (S : MS) (x1 : Int32) : Option (MS) := (r_countOf S x1).bind (fun v4 => r_findTwo_12 FU x1 v4 2000000000 0 S)
set_option maxRecDepth 20000 in
theorem rs_findTwo_132 {l : Launch} {κ : KMt} {Z : MS} (k12 : Int32 → Int32 → Int32 → Int32 → MS → Option (MS)) (h12 : ∀ (x1 : Int32) (x2 : Int32) (x3 : Int32) (x4 : Int32) (S : MS), k12 x1 x2 x3 x4 S = some Z → Go l (EM κ) RX12 cX12_findTwo 8 none 7 170 0 0 none Z 12 [(0, .ref κ.o), (1, .int x1), (2, .int x2), (3, .int x3), (4, .int x4)] [] S) (k24 : Int32 → Int32 → Int32 → Int32 → Int32 → MS → Option (MS)) (h24 : ∀ (x1 : Int32) (x2 : Int32) (x3 : Int32) (x4 : Int32) (x5 : Int32) (S : MS), k24 x1 x2 x3 x4 x5 S = some Z → Go l (EM κ) RX12 cX12_findTwo 8 none 7 170 0 0 none Z 24 [(0, .ref κ.o), (1, .int x1), (2, .int x2), (3, .int x3), (4, .int x4), (5, .int x5)] [] S) (x1 : Int32) (x2 : Int32) (x3 : Int32) (x4 : Int32) (x5 : Int32) (S : MS) (h : r_findTwo_132 k12 k24 x1 x2 x3 x4 x5 S = some Z) : Go l (EM κ) RX12 cX12_findTwo 8 none 7 170 0 0 none Z 132 [(0, .ref κ.o), (1, .int x1), (2, .int x2), (3, .int x3), (4, .int x4), (5, .int x5)] [] S := by
  unfold r_findTwo_132 at h
  refine Go.iinc (w := 1) 5 [(0, .ref κ.o), (1, .int x1), (2, .int x2), (3, .int x3), (4, .int x4), (5, .int (x5 + 1))] dX12_findTwo_132 rfl (by decide) (by decide) rfl ?_
  refine Go.goto 24 dX12_findTwo_135 (by decide) ?_
  exact h24 _ _ _ _ _ _ h
set_option maxRecDepth 20000 in
theorem rs_findTwo_106 {l : Launch} {κ : KMt} {Z : MS} (k12 : Int32 → Int32 → Int32 → Int32 → MS → Option (MS)) (h12 : ∀ (x1 : Int32) (x2 : Int32) (x3 : Int32) (x4 : Int32) (S : MS), k12 x1 x2 x3 x4 S = some Z → Go l (EM κ) RX12 cX12_findTwo 8 none 7 170 0 0 none Z 12 [(0, .ref κ.o), (1, .int x1), (2, .int x2), (3, .int x3), (4, .int x4)] [] S) (k24 : Int32 → Int32 → Int32 → Int32 → Int32 → MS → Option (MS)) (h24 : ∀ (x1 : Int32) (x2 : Int32) (x3 : Int32) (x4 : Int32) (x5 : Int32) (S : MS), k24 x1 x2 x3 x4 x5 S = some Z → Go l (EM κ) RX12 cX12_findTwo 8 none 7 170 0 0 none Z 24 [(0, .ref κ.o), (1, .int x1), (2, .int x2), (3, .int x3), (4, .int x4), (5, .int x5)] [] S) (n : Nat) : ∀ (x1 : Int32) (x2 : Int32) (x3 : Int32) (x4 : Int32) (x5 : Int32) (x7 : Int32) (S : MS), r_findTwo_106 k12 k24 n x1 x2 x3 x4 x5 x7 S = some Z → Go l (EM κ) RX12 cX12_findTwo 8 none 7 170 0 0 none Z 106 [(0, .ref κ.o), (1, .int x1), (2, .int x2), (3, .int x3), (4, .int x4), (5, .int x5), (7, .int x7)] [] S := by
  induction n with
  | zero => intro x1 x2 x3 x4 x5 x7 S h; rw [r_findTwo_106] at h; cases h
  | succ n ih =>
    intro x1 x2 x3 x4 x5 x7 S h
    rw [r_findTwo_106] at h
    refine Go.iload 6 dX12_findTwo_106 rfl ?_
    refine Go.iload_n 2 dX12_findTwo_108 rfl ?_
    refine Go.icmp_ge 132 dX12_findTwo_109 (by decide) h (fun h => ?_) (fun h => ?_)
    · refine Go.sub [0, 1, 2, 3, 4, 5] rfl ?_
      exact rs_findTwo_132 _ h12 _ h24 _ _ _ _ _ _ h
    · refine Go.aload_n 0 dX12_findTwo_112 rfl ?_
      refine GM.geta 7 7 (by decide) rfl fl_isSecondBest rfl dX12_findTwo_113 ?_
      refine Go.iload 6 dX12_findTwo_116 rfl ?_
      refine Go.aload_n 0 dX12_findTwo_118 rfl ?_
      refine GM.geta 6 6 (by decide) rfl fl_isSecond rfl dX12_findTwo_119 ?_
      refine Go.iload 6 dX12_findTwo_122 rfl ?_
      refine GM.zald 6 (by decide) rfl dX12_findTwo_124 h (fun v1 h => ?_)
      refine GM.zast 7 (by decide) rfl dX12_findTwo_125 h (fun S2 h => ?_)
      refine Go.iinc (w := 1) 6 [(0, .ref κ.o), (1, .int x1), (2, .int x2), (3, .int x3), (4, .int x4), (5, .int x5), (7, .int (x7 + 1))] dX12_findTwo_126 rfl (by decide) (by decide) rfl ?_
      refine Go.goto 106 dX12_findTwo_129 (by decide) ?_
      exact ih _ _ _ _ _ _ _ h
set_option maxRecDepth 20000 in
theorem rs_findTwo_61 {l : Launch} {κ : KMt} {Z : MS} (k12 : Int32 → Int32 → Int32 → Int32 → MS → Option (MS)) (h12 : ∀ (x1 : Int32) (x2 : Int32) (x3 : Int32) (x4 : Int32) (S : MS), k12 x1 x2 x3 x4 S = some Z → Go l (EM κ) RX12 cX12_findTwo 8 none 7 170 0 0 none Z 12 [(0, .ref κ.o), (1, .int x1), (2, .int x2), (3, .int x3), (4, .int x4)] [] S) (k24 : Int32 → Int32 → Int32 → Int32 → Int32 → MS → Option (MS)) (h24 : ∀ (x1 : Int32) (x2 : Int32) (x3 : Int32) (x4 : Int32) (x5 : Int32) (S : MS), k24 x1 x2 x3 x4 x5 S = some Z → Go l (EM κ) RX12 cX12_findTwo 8 none 7 170 0 0 none Z 24 [(0, .ref κ.o), (1, .int x1), (2, .int x2), (3, .int x3), (4, .int x4), (5, .int x5)] [] S) (x1 : Int32) (x2 : Int32) (x3 : Int32) (x4 : Int32) (x5 : Int32) (y0 : Int32) (S : MS) (h : r_findTwo_61 k12 k24 x1 x2 x3 x4 x5 y0 S = some Z) : Go l (EM κ) RX12 cX12_findTwo 8 none 7 170 0 0 none Z 61 [(0, .ref κ.o), (1, .int x1), (2, .int x2), (3, .int x3), (4, .int x4), (5, .int x5)] [.int y0] S := by
  unfold r_findTwo_61 at h
  refine Go.istore [(0, .ref κ.o), (1, .int x1), (2, .int x2), (3, .int x3), (4, .int x4), (5, .int x5), (6, .int y0)] dX12_findTwo_61 (by decide) rfl ?_
  refine Go.iload 6 dX12_findTwo_63 rfl ?_
  refine Go.iload_n 3 dX12_findTwo_65 rfl ?_
  refine Go.icmp_lt 72 dX12_findTwo_66 (by decide) h (fun h => ?_) (fun h => ?_)
  · refine Go.iload 6 dX12_findTwo_72 rfl ?_
    refine Go.istore_n [(0, .ref κ.o), (1, .int x1), (2, .int x2), (3, .int y0), (4, .int x4), (5, .int x5), (6, .int y0)] dX12_findTwo_74 (by decide) rfl ?_
    refine Go.aload_n 0 dX12_findTwo_75 rfl ?_
    refine Go.iload 4 dX12_findTwo_76 rfl ?_
    refine GM.puti 10 (by decide) rfl fl_bestOne rfl rfl rfl rfl dX12_findTwo_78 ?_
    refine Go.aload_n 0 dX12_findTwo_81 rfl ?_
    refine Go.iload 5 dX12_findTwo_82 rfl ?_
    refine GM.puti 11 (by decide) rfl fl_bestTwo rfl rfl rfl rfl dX12_findTwo_84 ?_
    refine Go.aload_n 0 dX12_findTwo_87 rfl ?_
    refine Go.aload_n 0 dX12_findTwo_88 rfl ?_
    refine GM.geti 8 (by decide) rfl fl_reachOne rfl dX12_findTwo_89 ?_
    refine GM.puti 12 (by decide) rfl fl_oneReach rfl rfl rfl rfl dX12_findTwo_92 ?_
    refine Go.aload_n 0 dX12_findTwo_95 rfl ?_
    refine Go.aload_n 0 dX12_findTwo_96 rfl ?_
    refine GM.geti 9 (by decide) rfl fl_reachTwo rfl dX12_findTwo_97 ?_
    refine GM.puti 13 (by decide) rfl fl_twoReach rfl rfl rfl rfl dX12_findTwo_100 ?_
    refine Go.iconst 0 dX12_findTwo_103 (by decide) ?_
    refine Go.istore [(0, .ref κ.o), (1, .int x1), (2, .int x2), (3, .int y0), (4, .int x4), (5, .int x5), (6, .int y0), (7, .int 0)] dX12_findTwo_104 (by decide) rfl ?_
    refine Go.sub [0, 1, 2, 3, 4, 5, 7] rfl ?_
    exact rs_findTwo_106 _ h12 _ h24 _ _ _ _ _ _ _ _ h
  · refine Go.goto 132 dX12_findTwo_69 (by decide) ?_
    refine Go.sub [0, 1, 2, 3, 4, 5] rfl ?_
    exact rs_findTwo_132 _ h12 _ h24 _ _ _ _ _ _ h
set_option maxRecDepth 20000 in
theorem rs_findTwo_24 {l : Launch} {κ : KMt} {Z : MS} (k12 : Int32 → Int32 → Int32 → Int32 → MS → Option (MS)) (h12 : ∀ (x1 : Int32) (x2 : Int32) (x3 : Int32) (x4 : Int32) (S : MS), k12 x1 x2 x3 x4 S = some Z → Go l (EM κ) RX12 cX12_findTwo 8 none 7 170 0 0 none Z 12 [(0, .ref κ.o), (1, .int x1), (2, .int x2), (3, .int x3), (4, .int x4)] [] S) (n : Nat) : ∀ (x1 : Int32) (x2 : Int32) (x3 : Int32) (x4 : Int32) (x5 : Int32) (S : MS), r_findTwo_24 k12 n x1 x2 x3 x4 x5 S = some Z → Go l (EM κ) RX12 cX12_findTwo 8 none 7 170 0 0 none Z 24 [(0, .ref κ.o), (1, .int x1), (2, .int x2), (3, .int x3), (4, .int x4), (5, .int x5)] [] S := by
  induction n with
  | zero => intro x1 x2 x3 x4 x5 S h; rw [r_findTwo_24] at h; cases h
  | succ n ih =>
    intro x1 x2 x3 x4 x5 S h
    rw [r_findTwo_24] at h
    refine Go.iload 5 dX12_findTwo_24 rfl ?_
    refine Go.iload_n 2 dX12_findTwo_26 rfl ?_
    refine Go.icmp_ge 138 dX12_findTwo_27 (by decide) h (fun h => ?_) (fun h => ?_)
    · refine Go.iinc (w := 1) 4 [(0, .ref κ.o), (1, .int x1), (2, .int x2), (3, .int x3), (4, .int (x4 + 1)), (5, .int x5)] dX12_findTwo_138 rfl (by decide) (by decide) rfl ?_
      refine Go.goto 12 dX12_findTwo_141 (by decide) ?_
      refine Go.sub [0, 1, 2, 3, 4] rfl ?_
      exact h12 _ _ _ _ _ h
    · refine Go.aload_n 0 dX12_findTwo_30 rfl ?_
      refine Go.iload_n 1 dX12_findTwo_31 rfl ?_
      refine Go.iload 4 dX12_findTwo_32 rfl ?_
      refine Go.iload 5 dX12_findTwo_34 rfl ?_
      refine GM.callvu (rest := []) [.int x1, .int x4, .int x5] dX12_findTwo_36 ck_part ci_part (rt_part _ _ _) rfl rfl (Nat.le_of_ble_eq_true rfl) (Nat.le_of_ble_eq_true rfl) (Nat.le_of_ble_eq_true rfl) h (fun S3 h => ?_)
      refine Go.aload_n 0 dX12_findTwo_39 rfl ?_
      refine GM.geti 8 (by decide) rfl fl_reachOne rfl dX12_findTwo_40 ?_
      refine Go.aload_n 0 dX12_findTwo_43 rfl ?_
      refine GM.geti 9 (by decide) rfl fl_reachTwo rfl dX12_findTwo_44 ?_
      refine Go.icmp_le 57 dX12_findTwo_47 (by decide) h (fun h => ?_) (fun h => ?_)
      · refine Go.aload_n 0 dX12_findTwo_57 rfl ?_
        refine GM.geti 9 (by decide) rfl fl_reachTwo rfl dX12_findTwo_58 ?_
        exact rs_findTwo_61 _ h12 _ ih _ _ _ _ _ _ _ h
      · refine Go.aload_n 0 dX12_findTwo_50 rfl ?_
        refine GM.geti 8 (by decide) rfl fl_reachOne rfl dX12_findTwo_51 ?_
        refine Go.goto 61 dX12_findTwo_54 (by decide) ?_
        exact rs_findTwo_61 _ h12 _ ih _ _ _ _ _ _ _ h
set_option maxRecDepth 20000 in
theorem rs_findTwo_12 {l : Launch} {κ : KMt} {Z : MS} (n : Nat) : ∀ (x1 : Int32) (x2 : Int32) (x3 : Int32) (x4 : Int32) (S : MS), r_findTwo_12 n x1 x2 x3 x4 S = some Z → Go l (EM κ) RX12 cX12_findTwo 8 none 7 170 0 0 none Z 12 [(0, .ref κ.o), (1, .int x1), (2, .int x2), (3, .int x3), (4, .int x4)] [] S := by
  induction n with
  | zero => intro x1 x2 x3 x4 S h; rw [r_findTwo_12] at h; cases h
  | succ n ih =>
    intro x1 x2 x3 x4 S h
    rw [r_findTwo_12] at h
    refine Go.iload 4 dX12_findTwo_12 rfl ?_
    refine Go.iload_n 2 dX12_findTwo_14 rfl ?_
    refine Go.icmp_ge 144 dX12_findTwo_15 (by decide) h (fun h => ?_) (fun h => ?_)
    · cases h
      exact Go.vret dX12_findTwo_144 rfl
    · refine Go.iload 4 dX12_findTwo_18 rfl ?_
      refine Go.iconst 1 dX12_findTwo_20 (by decide) ?_
      refine Go.iadd dX12_findTwo_21 ?_
      refine Go.istore [(0, .ref κ.o), (1, .int x1), (2, .int x2), (3, .int x3), (4, .int x4), (5, .int (x4 + 1))] dX12_findTwo_22 (by decide) rfl ?_
      exact rs_findTwo_24 _ ih _ _ _ _ _ _ _ h
set_option maxRecDepth 20000 in
theorem rs_findTwo {l : Launch} {κ : KMt} {S : MS} {Z : MS} (x1 : Int32) (h : r_findTwo S x1 = some Z) : Go l (EM κ) RX12 cX12_findTwo 8 none 7 170 0 0 none Z 0 [(0, .ref κ.o), (1, .int x1)] [] S := by
  unfold r_findTwo at h
  refine Go.aload_n 0 dX12_findTwo_0 rfl ?_
  refine Go.iload_n 1 dX12_findTwo_1 rfl ?_
  refine GM.callvr (rest := []) [.int x1] dX12_findTwo_2 ck_countOf ci_countOf (rt_countOf _) rfl rfl (Nat.le_of_ble_eq_true rfl) (Nat.le_of_ble_eq_true rfl) (Nat.le_of_ble_eq_true rfl) h (fun v4 h => ?_)
  refine Go.istore_n [(0, .ref κ.o), (1, .int x1), (2, .int v4)] dX12_findTwo_5 (by decide) rfl ?_
  refine Go.ldc (v := 2000000000) cn_202 dX12_findTwo_6 ?_
  refine Go.istore_n [(0, .ref κ.o), (1, .int x1), (2, .int v4), (3, .int 2000000000)] dX12_findTwo_8 (by decide) rfl ?_
  refine Go.iconst 0 dX12_findTwo_9 (by decide) ?_
  refine Go.istore [(0, .ref κ.o), (1, .int x1), (2, .int v4), (3, .int 2000000000), (4, .int 0)] dX12_findTwo_10 (by decide) rfl ?_
  exact rs_findTwo_12 _ _ _ _ _ _ h
set_option maxRecDepth 20000 in
theorem rt_findTwo {l : Launch} {κ : KMt} {S : MS} (x1 : Int32) : ∀ Z, r_findTwo S x1 = some Z → MtM l κ yX12_findTwo cX12_findTwo 8 none 7 170 [.ref κ.o, .int x1] S none Z := fun Z h => MtM.of (by decide +kernel) rfl (Nat.le_of_ble_eq_true rfl) ⟨rfl, rfl, trivial⟩ (rs_findTwo x1 h)
/-! split -/
def r_split_317  (x7 : Int32) (y1 : Int32) (y2 : Int32) (y3 : Int32) (y4 : Int32) (y5 : Int32) (S : MS) : Option (MS) := (r_insert S y1 y2 y3 y4 y5 x7).bind (fun S1 => some S1)
def r_split_284  (x1 : Int32) (x2 : Int32) (x3 : Int32) (x4 : Int32) (x6 : Int32) (x7 : Int32) (y1 : Int32) (y2 : Int32) (y3 : Int32) (y4 : Int32) (y5 : Int32) (S : MS) : Option (MS) := (r_layEntry S y1 y2 y3 y4 y5 x1).bind (fun S2 => if x4 = (-1) then r_split_317 x7 x2 (x3 + 1) x6 (S2.2 13) 0 S2 else bd2 (r_farOf S2 x4 x6) (fun v3 S4 => r_split_317 x7 x2 (x3 + 1) x6 (S2.2 13) v3 S4))
def r_split_225  : Nat → Int32 → Int32 → Int32 → Int32 → Int32 → Int32 → Int32 → Int32 → Int32 → Int32 → MS → Option (MS)
  | 0, _, _, _, _, _, _, _, _, _, _, _ => none
  | n + 1, x1, x2, x3, x4, x5, x6, x7, x8, x9, x10, S => if x8 ≤ x10 then (r_let S x1 0 x9).bind (fun S5 => if x4 = (-1) then r_split_284 x1 x2 x3 x4 x6 x7 x2 x3 x5 (S5.2 12) 0 S5 else bd2 (r_farOf S5 x4 x5) (fun v6 S7 => r_split_284 x1 x2 x3 x4 x6 x7 x2 x3 x5 (S5.2 12) v6 S7)) else (r_layEntry S x1 x10 0 0 0 0).bind (fun S8 => r_split_225 n x1 x2 x3 x4 x5 x6 x7 x8 x9 (x10 + 1) S8)
def r_split_215 (k117 : Int32 → Int32 → Int32 → Int32 → Int32 → Int32 → Int32 → Int32 → Int32 → Int32 → MS → Option (MS)) (x1 : Int32) (x2 : Int32) (x3 : Int32) (x4 : Int32) (x5 : Int32) (x6 : Int32) (x7 : Int32) (x8 : Int32) (x9 : Int32) (x10 : Int32) (S : MS) : Option (MS) := k117 x1 x2 x3 x4 x5 x6 x7 x8 x9 (x10 + 1) S
def r_split_117  : Nat → Int32 → Int32 → Int32 → Int32 → Int32 → Int32 → Int32 → Int32 → Int32 → Int32 → MS → Option (MS)
  | 0, _, _, _, _, _, _, _, _, _, _, _ => none
  | n + 1, x1, x2, x3, x4, x5, x6, x7, x8, x9, x10, S => if x8 ≤ x10 then r_split_225 FU x1 x2 x3 x4 x5 x6 x7 x8 x9 x9 S else (r_entryOf S x1 x10 0).bind (fun v9 => (r_entryOf S x1 x10 1).bind (fun v10 => (r_entryOf S x1 x10 2).bind (fun v11 => (r_entryOf S x1 x10 3).bind (fun v12 => (rd S 7 x10).bind (fun v13 => if v13 = 0 then (r_layEntry S x1 x9 v9 v10 v11 v12).bind (fun S14 => r_split_215 (r_split_117 n) x1 x2 x3 x4 x5 x6 x7 x8 (x9 + 1) x10 S14) else (r_countOf S x7).bind (fun v15 => (r_insert S x7 v15 v9 v10 v11 v12).bind (fun S16 => r_split_215 (r_split_117 n) x1 x2 x3 x4 x5 x6 x7 x8 x9 x10 S16)))))))
def r_split_80 (k43 : Int32 → Int32 → Int32 → Int32 → Int32 → Int32 → Int32 → Int32 → MS → Option (MS)) (x1 : Int32) (x2 : Int32) (x3 : Int32) (x4 : Int32) (x5 : Int32) (x6 : Int32) (x7 : Int32) (x8 : Int32) (x9 : Int32) (y0 : Int32) (S : MS) : Option (MS) := bd2 (r_farOf S y0 x9) (fun v17 S18 => (r_letEntry S18 x1 x8 2 v17).bind (fun S19 => k43 x1 x2 x3 x4 x5 x6 x7 (x8 + 1) S19))
def r_split_43  : Nat → Int32 → Int32 → Int32 → Int32 → Int32 → Int32 → Int32 → Int32 → MS → Option (MS)
  | 0, _, _, _, _, _, _, _, _, _ => none
  | n + 1, x1, x2, x3, x4, x5, x6, x7, x8, S => (r_countOf S x1).bind (fun v20 => if v20 ≤ x8 then (r_countOf S x1).bind (fun v21 => r_split_117 FU x1 x2 x3 x4 x5 x6 x7 v21 0 0 S) else (r_entryOf S x1 x8 0).bind (fun v22 => (rd S 7 x8).bind (fun v23 => if v23 = 0 then r_split_80 (r_split_43 n) x1 x2 x3 x4 x5 x6 x7 x8 v22 x5 S else r_split_80 (r_split_43 n) x1 x2 x3 x4 x5 x6 x7 x8 v22 x6 S)))
def r_split (S : MS) (x1 : Int32) (x2 : Int32) (x3 : Int32) (x4 : Int32) : Option (MS) := (r_findTwo S x1).bind (fun S24 => (r_entryOf S24 x1 (S24.2 10) 0).bind (fun v25 => (r_entryOf S24 x1 (S24.2 11) 0).bind (fun v26 => (r_isLeaf S24 x1).bind (fun v27 => bd2 (r_newPage S24 v27) (fun v28 S29 => r_split_43 FU x1 x2 x3 x4 v25 v26 v28 0 S29)))))
set_option maxRecDepth 20000 in
theorem rs_split_317 {l : Launch} {κ : KMt} {Z : MS} (x7 : Int32) (y1 : Int32) (y2 : Int32) (y3 : Int32) (y4 : Int32) (y5 : Int32) (S : MS) (h : r_split_317 x7 y1 y2 y3 y4 y5 S = some Z) : Go l (EM κ) RX12 cX12_split 15 none 8 197 0 0 none Z 317 [(7, .int x7)] [.int y5, .int y4, .int y3, .int y2, .int y1, .ref κ.o] S := by
  unfold r_split_317 at h
  refine Go.iload 0 dX12_split_317 rfl ?_
  refine GM.callvu (rest := []) [.int y1, .int y2, .int y3, .int y4, .int y5, .int x7] dX12_split_319 ck_insert ci_insert (rt_insert _ _ _ _ _ _) rfl rfl (Nat.le_of_ble_eq_true rfl) (Nat.le_of_ble_eq_true rfl) (Nat.le_of_ble_eq_true rfl) h (fun S1 h => ?_)
  cases h
  exact Go.vret dX12_split_322 rfl
set_option maxRecDepth 20000 in
theorem rs_split_284 {l : Launch} {κ : KMt} {Z : MS} (x1 : Int32) (x2 : Int32) (x3 : Int32) (x4 : Int32) (x6 : Int32) (x7 : Int32) (y1 : Int32) (y2 : Int32) (y3 : Int32) (y4 : Int32) (y5 : Int32) (S : MS) (h : r_split_284 x1 x2 x3 x4 x6 x7 y1 y2 y3 y4 y5 S = some Z) : Go l (EM κ) RX12 cX12_split 15 none 8 197 0 0 none Z 284 [(0, .ref κ.o), (1, .int x1), (2, .int x2), (3, .int x3), (4, .int x4), (6, .int x6), (7, .int x7)] [.int y5, .int y4, .int y3, .int y2, .int y1, .ref κ.o] S := by
  unfold r_split_284 at h
  refine Go.iload_n 1 dX12_split_284 rfl ?_
  refine GM.callvu (rest := []) [.int y1, .int y2, .int y3, .int y4, .int y5, .int x1] dX12_split_285 ck_layEntry ci_layEntry (rt_layEntry _ _ _ _ _ _) rfl rfl (Nat.le_of_ble_eq_true rfl) (Nat.le_of_ble_eq_true rfl) (Nat.le_of_ble_eq_true rfl) h (fun S2 h => ?_)
  refine Go.aload_n 0 dX12_split_288 rfl ?_
  refine Go.iload_n 2 dX12_split_289 rfl ?_
  refine Go.iload_n 3 dX12_split_290 rfl ?_
  refine Go.iconst 1 dX12_split_291 (by decide) ?_
  refine Go.iadd dX12_split_292 ?_
  refine Go.iload 5 dX12_split_293 rfl ?_
  refine Go.aload_n 0 dX12_split_295 rfl ?_
  refine GM.geti 13 (by decide) rfl fl_twoReach rfl dX12_split_296 ?_
  refine Go.iload 4 dX12_split_299 rfl ?_
  refine Go.iconst (-1) dX12_split_301 (by decide) ?_
  refine Go.icmp_ne 309 dX12_split_302 (by decide) h (fun h => ?_) (fun h => ?_)
  · refine Go.aload_n 0 dX12_split_309 rfl ?_
    refine Go.iload 4 dX12_split_310 rfl ?_
    refine Go.iload 5 dX12_split_312 rfl ?_
    refine GM.callvw (rest := [.int (S2.2 13), .int x6, .int (x3 + 1), .int x2, .ref κ.o]) [.int x4, .int x6] dX12_split_314 ck_farOf ci_farOf (rt_farOf _ _) rfl rfl (Nat.le_of_ble_eq_true rfl) (Nat.le_of_ble_eq_true rfl) (Nat.le_of_ble_eq_true rfl) h (fun v3 S4 h => ?_)
    refine Go.sub [6] rfl ?_
    exact rs_split_317 _ _ _ _ _ _ _ h
  · refine Go.iconst 0 dX12_split_305 (by decide) ?_
    refine Go.goto 317 dX12_split_306 (by decide) ?_
    refine Go.sub [6] rfl ?_
    exact rs_split_317 _ _ _ _ _ _ _ h
set_option maxRecDepth 20000 in
theorem rs_split_225 {l : Launch} {κ : KMt} {Z : MS} (n : Nat) : ∀ (x1 : Int32) (x2 : Int32) (x3 : Int32) (x4 : Int32) (x5 : Int32) (x6 : Int32) (x7 : Int32) (x8 : Int32) (x9 : Int32) (x10 : Int32) (S : MS), r_split_225 n x1 x2 x3 x4 x5 x6 x7 x8 x9 x10 S = some Z → Go l (EM κ) RX12 cX12_split 15 none 8 197 0 0 none Z 225 [(0, .ref κ.o), (1, .int x1), (2, .int x2), (3, .int x3), (4, .int x4), (5, .int x5), (6, .int x6), (7, .int x7), (8, .int x8), (9, .int x9), (10, .int x10)] [] S := by
  induction n with
  | zero => intro x1 x2 x3 x4 x5 x6 x7 x8 x9 x10 S h; rw [r_split_225] at h; cases h
  | succ n ih =>
    intro x1 x2 x3 x4 x5 x6 x7 x8 x9 x10 S h
    rw [r_split_225] at h
    refine Go.iload 10 dX12_split_225 rfl ?_
    refine Go.iload 8 dX12_split_227 rfl ?_
    refine Go.icmp_ge 249 dX12_split_229 (by decide) h (fun h => ?_) (fun h => ?_)
    · refine Go.aload_n 0 dX12_split_249 rfl ?_
      refine Go.iload_n 1 dX12_split_250 rfl ?_
      refine Go.iconst 0 dX12_split_251 (by decide) ?_
      refine Go.iload 9 dX12_split_252 rfl ?_
      refine GM.callvu (rest := []) [.int x1, .int 0, .int x9] dX12_split_254 ck_let ci_let (rt_let _ _ _) rfl rfl (Nat.le_of_ble_eq_true rfl) (Nat.le_of_ble_eq_true rfl) (Nat.le_of_ble_eq_true rfl) h (fun S5 h => ?_)
      refine Go.aload_n 0 dX12_split_257 rfl ?_
      refine Go.iload_n 2 dX12_split_258 rfl ?_
      refine Go.iload_n 3 dX12_split_259 rfl ?_
      refine Go.iload 5 dX12_split_260 rfl ?_
      refine Go.aload_n 0 dX12_split_262 rfl ?_
      refine GM.geti 12 (by decide) rfl fl_oneReach rfl dX12_split_263 ?_
      refine Go.iload 4 dX12_split_266 rfl ?_
      refine Go.iconst (-1) dX12_split_268 (by decide) ?_
      refine Go.icmp_ne 276 dX12_split_269 (by decide) h (fun h => ?_) (fun h => ?_)
      · refine Go.aload_n 0 dX12_split_276 rfl ?_
        refine Go.iload 4 dX12_split_277 rfl ?_
        refine Go.iload 5 dX12_split_279 rfl ?_
        refine GM.callvw (rest := [.int (S5.2 12), .int x5, .int x3, .int x2, .ref κ.o]) [.int x4, .int x5] dX12_split_281 ck_farOf ci_farOf (rt_farOf _ _) rfl rfl (Nat.le_of_ble_eq_true rfl) (Nat.le_of_ble_eq_true rfl) (Nat.le_of_ble_eq_true rfl) h (fun v6 S7 h => ?_)
        refine Go.sub [0, 1, 2, 3, 4, 6, 7] rfl ?_
        exact rs_split_284 _ _ _ _ _ _ _ _ _ _ _ _ h
      · refine Go.iconst 0 dX12_split_272 (by decide) ?_
        refine Go.goto 284 dX12_split_273 (by decide) ?_
        refine Go.sub [0, 1, 2, 3, 4, 6, 7] rfl ?_
        exact rs_split_284 _ _ _ _ _ _ _ _ _ _ _ _ h
    · refine Go.aload_n 0 dX12_split_232 rfl ?_
      refine Go.iload_n 1 dX12_split_233 rfl ?_
      refine Go.iload 10 dX12_split_234 rfl ?_
      refine Go.iconst 0 dX12_split_236 (by decide) ?_
      refine Go.iconst 0 dX12_split_237 (by decide) ?_
      refine Go.iconst 0 dX12_split_238 (by decide) ?_
      refine Go.iconst 0 dX12_split_239 (by decide) ?_
      refine GM.callvu (rest := []) [.int x1, .int x10, .int 0, .int 0, .int 0, .int 0] dX12_split_240 ck_layEntry ci_layEntry (rt_layEntry _ _ _ _ _ _) rfl rfl (Nat.le_of_ble_eq_true rfl) (Nat.le_of_ble_eq_true rfl) (Nat.le_of_ble_eq_true rfl) h (fun S8 h => ?_)
      refine Go.iinc (w := 1) 10 [(0, .ref κ.o), (1, .int x1), (2, .int x2), (3, .int x3), (4, .int x4), (5, .int x5), (6, .int x6), (7, .int x7), (8, .int x8), (9, .int x9), (10, .int (x10 + 1))] dX12_split_243 rfl (by decide) (by decide) rfl ?_
      refine Go.goto 225 dX12_split_246 (by decide) ?_
      exact ih _ _ _ _ _ _ _ _ _ _ _ h
set_option maxRecDepth 20000 in
theorem rs_split_215 {l : Launch} {κ : KMt} {Z : MS} (k117 : Int32 → Int32 → Int32 → Int32 → Int32 → Int32 → Int32 → Int32 → Int32 → Int32 → MS → Option (MS)) (h117 : ∀ (x1 : Int32) (x2 : Int32) (x3 : Int32) (x4 : Int32) (x5 : Int32) (x6 : Int32) (x7 : Int32) (x8 : Int32) (x9 : Int32) (x10 : Int32) (S : MS), k117 x1 x2 x3 x4 x5 x6 x7 x8 x9 x10 S = some Z → Go l (EM κ) RX12 cX12_split 15 none 8 197 0 0 none Z 117 [(0, .ref κ.o), (1, .int x1), (2, .int x2), (3, .int x3), (4, .int x4), (5, .int x5), (6, .int x6), (7, .int x7), (8, .int x8), (9, .int x9), (10, .int x10)] [] S) (x1 : Int32) (x2 : Int32) (x3 : Int32) (x4 : Int32) (x5 : Int32) (x6 : Int32) (x7 : Int32) (x8 : Int32) (x9 : Int32) (x10 : Int32) (S : MS) (h : r_split_215 k117 x1 x2 x3 x4 x5 x6 x7 x8 x9 x10 S = some Z) : Go l (EM κ) RX12 cX12_split 15 none 8 197 0 0 none Z 215 [(0, .ref κ.o), (1, .int x1), (2, .int x2), (3, .int x3), (4, .int x4), (5, .int x5), (6, .int x6), (7, .int x7), (8, .int x8), (9, .int x9), (10, .int x10)] [] S := by
  unfold r_split_215 at h
  refine Go.iinc (w := 1) 10 [(0, .ref κ.o), (1, .int x1), (2, .int x2), (3, .int x3), (4, .int x4), (5, .int x5), (6, .int x6), (7, .int x7), (8, .int x8), (9, .int x9), (10, .int (x10 + 1))] dX12_split_215 rfl (by decide) (by decide) rfl ?_
  refine Go.goto 117 dX12_split_218 (by decide) ?_
  exact h117 _ _ _ _ _ _ _ _ _ _ _ h
set_option maxRecDepth 20000 in
theorem rs_split_117 {l : Launch} {κ : KMt} {Z : MS} (n : Nat) : ∀ (x1 : Int32) (x2 : Int32) (x3 : Int32) (x4 : Int32) (x5 : Int32) (x6 : Int32) (x7 : Int32) (x8 : Int32) (x9 : Int32) (x10 : Int32) (S : MS), r_split_117 n x1 x2 x3 x4 x5 x6 x7 x8 x9 x10 S = some Z → Go l (EM κ) RX12 cX12_split 15 none 8 197 0 0 none Z 117 [(0, .ref κ.o), (1, .int x1), (2, .int x2), (3, .int x3), (4, .int x4), (5, .int x5), (6, .int x6), (7, .int x7), (8, .int x8), (9, .int x9), (10, .int x10)] [] S := by
  induction n with
  | zero => intro x1 x2 x3 x4 x5 x6 x7 x8 x9 x10 S h; rw [r_split_117] at h; cases h
  | succ n ih =>
    intro x1 x2 x3 x4 x5 x6 x7 x8 x9 x10 S h
    rw [r_split_117] at h
    refine Go.iload 10 dX12_split_117 rfl ?_
    refine Go.iload 8 dX12_split_119 rfl ?_
    refine Go.icmp_ge 221 dX12_split_121 (by decide) h (fun h => ?_) (fun h => ?_)
    · refine Go.iload 9 dX12_split_221 rfl ?_
      refine Go.istore [(0, .ref κ.o), (1, .int x1), (2, .int x2), (3, .int x3), (4, .int x4), (5, .int x5), (6, .int x6), (7, .int x7), (8, .int x8), (9, .int x9), (10, .int x9)] dX12_split_223 (by decide) rfl ?_
      exact rs_split_225 _ _ _ _ _ _ _ _ _ _ _ _ h
    · refine Go.aload_n 0 dX12_split_124 rfl ?_
      refine Go.iload_n 1 dX12_split_125 rfl ?_
      refine Go.iload 10 dX12_split_126 rfl ?_
      refine Go.iconst 0 dX12_split_128 (by decide) ?_
      refine GM.callvr (rest := []) [.int x1, .int x10, .int 0] dX12_split_129 ck_entryOf ci_entryOf (rt_entryOf _ _ _) rfl rfl (Nat.le_of_ble_eq_true rfl) (Nat.le_of_ble_eq_true rfl) (Nat.le_of_ble_eq_true rfl) h (fun v9 h => ?_)
      refine Go.istore [(0, .ref κ.o), (1, .int x1), (2, .int x2), (3, .int x3), (4, .int x4), (5, .int x5), (6, .int x6), (7, .int x7), (8, .int x8), (9, .int x9), (10, .int x10), (11, .int v9)] dX12_split_132 (by decide) rfl ?_
      refine Go.aload_n 0 dX12_split_134 rfl ?_
      refine Go.iload_n 1 dX12_split_135 rfl ?_
      refine Go.iload 10 dX12_split_136 rfl ?_
      refine Go.iconst 1 dX12_split_138 (by decide) ?_
      refine GM.callvr (rest := []) [.int x1, .int x10, .int 1] dX12_split_139 ck_entryOf ci_entryOf (rt_entryOf _ _ _) rfl rfl (Nat.le_of_ble_eq_true rfl) (Nat.le_of_ble_eq_true rfl) (Nat.le_of_ble_eq_true rfl) h (fun v10 h => ?_)
      refine Go.istore [(0, .ref κ.o), (1, .int x1), (2, .int x2), (3, .int x3), (4, .int x4), (5, .int x5), (6, .int x6), (7, .int x7), (8, .int x8), (9, .int x9), (10, .int x10), (11, .int v9), (12, .int v10)] dX12_split_142 (by decide) rfl ?_
      refine Go.aload_n 0 dX12_split_144 rfl ?_
      refine Go.iload_n 1 dX12_split_145 rfl ?_
      refine Go.iload 10 dX12_split_146 rfl ?_
      refine Go.iconst 2 dX12_split_148 (by decide) ?_
      refine GM.callvr (rest := []) [.int x1, .int x10, .int 2] dX12_split_149 ck_entryOf ci_entryOf (rt_entryOf _ _ _) rfl rfl (Nat.le_of_ble_eq_true rfl) (Nat.le_of_ble_eq_true rfl) (Nat.le_of_ble_eq_true rfl) h (fun v11 h => ?_)
      refine Go.istore [(0, .ref κ.o), (1, .int x1), (2, .int x2), (3, .int x3), (4, .int x4), (5, .int x5), (6, .int x6), (7, .int x7), (8, .int x8), (9, .int x9), (10, .int x10), (11, .int v9), (12, .int v10), (13, .int v11)] dX12_split_152 (by decide) rfl ?_
      refine Go.aload_n 0 dX12_split_154 rfl ?_
      refine Go.iload_n 1 dX12_split_155 rfl ?_
      refine Go.iload 10 dX12_split_156 rfl ?_
      refine Go.iconst 3 dX12_split_158 (by decide) ?_
      refine GM.callvr (rest := []) [.int x1, .int x10, .int 3] dX12_split_159 ck_entryOf ci_entryOf (rt_entryOf _ _ _) rfl rfl (Nat.le_of_ble_eq_true rfl) (Nat.le_of_ble_eq_true rfl) (Nat.le_of_ble_eq_true rfl) h (fun v12 h => ?_)
      refine Go.istore [(0, .ref κ.o), (1, .int x1), (2, .int x2), (3, .int x3), (4, .int x4), (5, .int x5), (6, .int x6), (7, .int x7), (8, .int x8), (9, .int x9), (10, .int x10), (11, .int v9), (12, .int v10), (13, .int v11), (14, .int v12)] dX12_split_162 (by decide) rfl ?_
      refine Go.aload_n 0 dX12_split_164 rfl ?_
      refine GM.geta 7 7 (by decide) rfl fl_isSecondBest rfl dX12_split_165 ?_
      refine Go.iload 10 dX12_split_168 rfl ?_
      refine GM.zald 7 (by decide) rfl dX12_split_170 h (fun v13 h => ?_)
      refine Go.if_eq 197 dX12_split_171 (by decide) h (fun h => ?_) (fun h => ?_)
      · refine Go.aload_n 0 dX12_split_197 rfl ?_
        refine Go.iload_n 1 dX12_split_198 rfl ?_
        refine Go.iload 9 dX12_split_199 rfl ?_
        refine Go.iload 11 dX12_split_201 rfl ?_
        refine Go.iload 12 dX12_split_203 rfl ?_
        refine Go.iload 13 dX12_split_205 rfl ?_
        refine Go.iload 14 dX12_split_207 rfl ?_
        refine GM.callvu (rest := []) [.int x1, .int x9, .int v9, .int v10, .int v11, .int v12] dX12_split_209 ck_layEntry ci_layEntry (rt_layEntry _ _ _ _ _ _) rfl rfl (Nat.le_of_ble_eq_true rfl) (Nat.le_of_ble_eq_true rfl) (Nat.le_of_ble_eq_true rfl) h (fun S14 h => ?_)
        refine Go.iinc (w := 1) 9 [(0, .ref κ.o), (1, .int x1), (2, .int x2), (3, .int x3), (4, .int x4), (5, .int x5), (6, .int x6), (7, .int x7), (8, .int x8), (9, .int (x9 + 1)), (10, .int x10), (11, .int v9), (12, .int v10), (13, .int v11), (14, .int v12)] dX12_split_212 rfl (by decide) (by decide) rfl ?_
        refine Go.sub [0, 1, 2, 3, 4, 5, 6, 7, 8, 9, 10] rfl ?_
        exact rs_split_215 _ ih _ _ _ _ _ _ _ _ _ _ _ h
      · refine Go.aload_n 0 dX12_split_174 rfl ?_
        refine Go.iload 7 dX12_split_175 rfl ?_
        refine Go.aload_n 0 dX12_split_177 rfl ?_
        refine Go.iload 7 dX12_split_178 rfl ?_
        refine GM.callvr (rest := [.int x7, .ref κ.o]) [.int x7] dX12_split_180 ck_countOf ci_countOf (rt_countOf _) rfl rfl (Nat.le_of_ble_eq_true rfl) (Nat.le_of_ble_eq_true rfl) (Nat.le_of_ble_eq_true rfl) h (fun v15 h => ?_)
        refine Go.iload 11 dX12_split_183 rfl ?_
        refine Go.iload 12 dX12_split_185 rfl ?_
        refine Go.iload 13 dX12_split_187 rfl ?_
        refine Go.iload 14 dX12_split_189 rfl ?_
        refine GM.callvu (rest := []) [.int x7, .int v15, .int v9, .int v10, .int v11, .int v12] dX12_split_191 ck_insert ci_insert (rt_insert _ _ _ _ _ _) rfl rfl (Nat.le_of_ble_eq_true rfl) (Nat.le_of_ble_eq_true rfl) (Nat.le_of_ble_eq_true rfl) h (fun S16 h => ?_)
        refine Go.goto 215 dX12_split_194 (by decide) ?_
        refine Go.sub [0, 1, 2, 3, 4, 5, 6, 7, 8, 9, 10] rfl ?_
        exact rs_split_215 _ ih _ _ _ _ _ _ _ _ _ _ _ h
set_option maxRecDepth 20000 in
theorem rs_split_80 {l : Launch} {κ : KMt} {Z : MS} (k43 : Int32 → Int32 → Int32 → Int32 → Int32 → Int32 → Int32 → Int32 → MS → Option (MS)) (h43 : ∀ (x1 : Int32) (x2 : Int32) (x3 : Int32) (x4 : Int32) (x5 : Int32) (x6 : Int32) (x7 : Int32) (x8 : Int32) (S : MS), k43 x1 x2 x3 x4 x5 x6 x7 x8 S = some Z → Go l (EM κ) RX12 cX12_split 15 none 8 197 0 0 none Z 43 [(0, .ref κ.o), (1, .int x1), (2, .int x2), (3, .int x3), (4, .int x4), (5, .int x5), (6, .int x6), (7, .int x7), (8, .int x8)] [] S) (x1 : Int32) (x2 : Int32) (x3 : Int32) (x4 : Int32) (x5 : Int32) (x6 : Int32) (x7 : Int32) (x8 : Int32) (x9 : Int32) (y0 : Int32) (S : MS) (h : r_split_80 k43 x1 x2 x3 x4 x5 x6 x7 x8 x9 y0 S = some Z) : Go l (EM κ) RX12 cX12_split 15 none 8 197 0 0 none Z 80 [(0, .ref κ.o), (1, .int x1), (2, .int x2), (3, .int x3), (4, .int x4), (5, .int x5), (6, .int x6), (7, .int x7), (8, .int x8), (9, .int x9)] [.int y0] S := by
  unfold r_split_80 at h
  refine Go.istore [(0, .ref κ.o), (1, .int x1), (2, .int x2), (3, .int x3), (4, .int x4), (5, .int x5), (6, .int x6), (7, .int x7), (8, .int x8), (9, .int x9), (10, .int y0)] dX12_split_80 (by decide) rfl ?_
  refine Go.aload_n 0 dX12_split_82 rfl ?_
  refine Go.iload_n 1 dX12_split_83 rfl ?_
  refine Go.iload 8 dX12_split_84 rfl ?_
  refine Go.iconst 2 dX12_split_86 (by decide) ?_
  refine Go.aload_n 0 dX12_split_87 rfl ?_
  refine Go.iload 10 dX12_split_88 rfl ?_
  refine Go.iload 9 dX12_split_90 rfl ?_
  refine GM.callvw (rest := [.int 2, .int x8, .int x1, .ref κ.o]) [.int y0, .int x9] dX12_split_92 ck_farOf ci_farOf (rt_farOf _ _) rfl rfl (Nat.le_of_ble_eq_true rfl) (Nat.le_of_ble_eq_true rfl) (Nat.le_of_ble_eq_true rfl) h (fun v17 S18 h => ?_)
  refine GM.callvu (rest := []) [.int x1, .int x8, .int 2, .int v17] dX12_split_95 ck_letEntry ci_letEntry (rt_letEntry _ _ _ _) rfl rfl (Nat.le_of_ble_eq_true rfl) (Nat.le_of_ble_eq_true rfl) (Nat.le_of_ble_eq_true rfl) h (fun S19 h => ?_)
  refine Go.iinc (w := 1) 8 [(0, .ref κ.o), (1, .int x1), (2, .int x2), (3, .int x3), (4, .int x4), (5, .int x5), (6, .int x6), (7, .int x7), (8, .int (x8 + 1)), (9, .int x9), (10, .int y0)] dX12_split_98 rfl (by decide) (by decide) rfl ?_
  refine Go.goto 43 dX12_split_101 (by decide) ?_
  refine Go.sub [0, 1, 2, 3, 4, 5, 6, 7, 8] rfl ?_
  exact h43 _ _ _ _ _ _ _ _ _ h
set_option maxRecDepth 20000 in
theorem rs_split_43 {l : Launch} {κ : KMt} {Z : MS} (n : Nat) : ∀ (x1 : Int32) (x2 : Int32) (x3 : Int32) (x4 : Int32) (x5 : Int32) (x6 : Int32) (x7 : Int32) (x8 : Int32) (S : MS), r_split_43 n x1 x2 x3 x4 x5 x6 x7 x8 S = some Z → Go l (EM κ) RX12 cX12_split 15 none 8 197 0 0 none Z 43 [(0, .ref κ.o), (1, .int x1), (2, .int x2), (3, .int x3), (4, .int x4), (5, .int x5), (6, .int x6), (7, .int x7), (8, .int x8)] [] S := by
  induction n with
  | zero => intro x1 x2 x3 x4 x5 x6 x7 x8 S h; rw [r_split_43] at h; cases h
  | succ n ih =>
    intro x1 x2 x3 x4 x5 x6 x7 x8 S h
    rw [r_split_43] at h
    refine Go.iload 8 dX12_split_43 rfl ?_
    refine Go.aload_n 0 dX12_split_45 rfl ?_
    refine Go.iload_n 1 dX12_split_46 rfl ?_
    refine GM.callvr (rest := [.int x8]) [.int x1] dX12_split_47 ck_countOf ci_countOf (rt_countOf _) rfl rfl (Nat.le_of_ble_eq_true rfl) (Nat.le_of_ble_eq_true rfl) (Nat.le_of_ble_eq_true rfl) h (fun v20 h => ?_)
    refine Go.icmp_ge 104 dX12_split_50 (by decide) h (fun h => ?_) (fun h => ?_)
    · refine Go.aload_n 0 dX12_split_104 rfl ?_
      refine Go.iload_n 1 dX12_split_105 rfl ?_
      refine GM.callvr (rest := []) [.int x1] dX12_split_106 ck_countOf ci_countOf (rt_countOf _) rfl rfl (Nat.le_of_ble_eq_true rfl) (Nat.le_of_ble_eq_true rfl) (Nat.le_of_ble_eq_true rfl) h (fun v21 h => ?_)
      refine Go.istore [(0, .ref κ.o), (1, .int x1), (2, .int x2), (3, .int x3), (4, .int x4), (5, .int x5), (6, .int x6), (7, .int x7), (8, .int v21)] dX12_split_109 (by decide) rfl ?_
      refine Go.iconst 0 dX12_split_111 (by decide) ?_
      refine Go.istore [(0, .ref κ.o), (1, .int x1), (2, .int x2), (3, .int x3), (4, .int x4), (5, .int x5), (6, .int x6), (7, .int x7), (8, .int v21), (9, .int 0)] dX12_split_112 (by decide) rfl ?_
      refine Go.iconst 0 dX12_split_114 (by decide) ?_
      refine Go.istore [(0, .ref κ.o), (1, .int x1), (2, .int x2), (3, .int x3), (4, .int x4), (5, .int x5), (6, .int x6), (7, .int x7), (8, .int v21), (9, .int 0), (10, .int 0)] dX12_split_115 (by decide) rfl ?_
      exact rs_split_117 _ _ _ _ _ _ _ _ _ _ _ _ h
    · refine Go.aload_n 0 dX12_split_53 rfl ?_
      refine Go.iload_n 1 dX12_split_54 rfl ?_
      refine Go.iload 8 dX12_split_55 rfl ?_
      refine Go.iconst 0 dX12_split_57 (by decide) ?_
      refine GM.callvr (rest := []) [.int x1, .int x8, .int 0] dX12_split_58 ck_entryOf ci_entryOf (rt_entryOf _ _ _) rfl rfl (Nat.le_of_ble_eq_true rfl) (Nat.le_of_ble_eq_true rfl) (Nat.le_of_ble_eq_true rfl) h (fun v22 h => ?_)
      refine Go.istore [(0, .ref κ.o), (1, .int x1), (2, .int x2), (3, .int x3), (4, .int x4), (5, .int x5), (6, .int x6), (7, .int x7), (8, .int x8), (9, .int v22)] dX12_split_61 (by decide) rfl ?_
      refine Go.aload_n 0 dX12_split_63 rfl ?_
      refine GM.geta 7 7 (by decide) rfl fl_isSecondBest rfl dX12_split_64 ?_
      refine Go.iload 8 dX12_split_67 rfl ?_
      refine GM.zald 7 (by decide) rfl dX12_split_69 h (fun v23 h => ?_)
      refine Go.if_eq 78 dX12_split_70 (by decide) h (fun h => ?_) (fun h => ?_)
      · refine Go.iload 5 dX12_split_78 rfl ?_
        exact rs_split_80 _ ih _ _ _ _ _ _ _ _ _ _ _ h
      · refine Go.iload 6 dX12_split_73 rfl ?_
        refine Go.goto 80 dX12_split_75 (by decide) ?_
        exact rs_split_80 _ ih _ _ _ _ _ _ _ _ _ _ _ h
set_option maxRecDepth 20000 in
theorem rs_split {l : Launch} {κ : KMt} {S : MS} {Z : MS} (x1 : Int32) (x2 : Int32) (x3 : Int32) (x4 : Int32) (h : r_split S x1 x2 x3 x4 = some Z) : Go l (EM κ) RX12 cX12_split 15 none 8 197 0 0 none Z 0 [(0, .ref κ.o), (1, .int x1), (2, .int x2), (3, .int x3), (4, .int x4)] [] S := by
  unfold r_split at h
  refine Go.aload_n 0 dX12_split_0 rfl ?_
  refine Go.iload_n 1 dX12_split_1 rfl ?_
  refine GM.callvu (rest := []) [.int x1] dX12_split_2 ck_findTwo ci_findTwo (rt_findTwo _) rfl rfl (Nat.le_of_ble_eq_true rfl) (Nat.le_of_ble_eq_true rfl) (Nat.le_of_ble_eq_true rfl) h (fun S24 h => ?_)
  refine Go.aload_n 0 dX12_split_5 rfl ?_
  refine Go.iload_n 1 dX12_split_6 rfl ?_
  refine Go.aload_n 0 dX12_split_7 rfl ?_
  refine GM.geti 10 (by decide) rfl fl_bestOne rfl dX12_split_8 ?_
  refine Go.iconst 0 dX12_split_11 (by decide) ?_
  refine GM.callvr (rest := []) [.int x1, .int (S24.2 10), .int 0] dX12_split_12 ck_entryOf ci_entryOf (rt_entryOf _ _ _) rfl rfl (Nat.le_of_ble_eq_true rfl) (Nat.le_of_ble_eq_true rfl) (Nat.le_of_ble_eq_true rfl) h (fun v25 h => ?_)
  refine Go.istore [(0, .ref κ.o), (1, .int x1), (2, .int x2), (3, .int x3), (4, .int x4), (5, .int v25)] dX12_split_15 (by decide) rfl ?_
  refine Go.aload_n 0 dX12_split_17 rfl ?_
  refine Go.iload_n 1 dX12_split_18 rfl ?_
  refine Go.aload_n 0 dX12_split_19 rfl ?_
  refine GM.geti 11 (by decide) rfl fl_bestTwo rfl dX12_split_20 ?_
  refine Go.iconst 0 dX12_split_23 (by decide) ?_
  refine GM.callvr (rest := []) [.int x1, .int (S24.2 11), .int 0] dX12_split_24 ck_entryOf ci_entryOf (rt_entryOf _ _ _) rfl rfl (Nat.le_of_ble_eq_true rfl) (Nat.le_of_ble_eq_true rfl) (Nat.le_of_ble_eq_true rfl) h (fun v26 h => ?_)
  refine Go.istore [(0, .ref κ.o), (1, .int x1), (2, .int x2), (3, .int x3), (4, .int x4), (5, .int v25), (6, .int v26)] dX12_split_27 (by decide) rfl ?_
  refine Go.aload_n 0 dX12_split_29 rfl ?_
  refine Go.aload_n 0 dX12_split_30 rfl ?_
  refine Go.iload_n 1 dX12_split_31 rfl ?_
  refine GM.callvr (rest := [.ref κ.o]) [.int x1] dX12_split_32 ck_isLeaf ci_isLeaf (rt_isLeaf _) rfl rfl (Nat.le_of_ble_eq_true rfl) (Nat.le_of_ble_eq_true rfl) (Nat.le_of_ble_eq_true rfl) h (fun v27 h => ?_)
  refine GM.callvw (rest := []) [.int v27] dX12_split_35 ck_newPage ci_newPage (rt_newPage _) rfl rfl (Nat.le_of_ble_eq_true rfl) (Nat.le_of_ble_eq_true rfl) (Nat.le_of_ble_eq_true rfl) h (fun v28 S29 h => ?_)
  refine Go.istore [(0, .ref κ.o), (1, .int x1), (2, .int x2), (3, .int x3), (4, .int x4), (5, .int v25), (6, .int v26), (7, .int v28)] dX12_split_38 (by decide) rfl ?_
  refine Go.iconst 0 dX12_split_40 (by decide) ?_
  refine Go.istore [(0, .ref κ.o), (1, .int x1), (2, .int x2), (3, .int x3), (4, .int x4), (5, .int v25), (6, .int v26), (7, .int v28), (8, .int 0)] dX12_split_41 (by decide) rfl ?_
  exact rs_split_43 _ _ _ _ _ _ _ _ _ _ h
set_option maxRecDepth 20000 in
theorem rt_split {l : Launch} {κ : KMt} {S : MS} (x1 : Int32) (x2 : Int32) (x3 : Int32) (x4 : Int32) : ∀ Z, r_split S x1 x2 x3 x4 = some Z → MtM l κ yX12_split cX12_split 15 none 8 197 [.ref κ.o, .int x1, .int x2, .int x3, .int x4] S none Z := fun Z h => MtM.of (by decide +kernel) rfl (Nat.le_of_ble_eq_true rfl) ⟨rfl, rfl, rfl, rfl, rfl, trivial⟩ (rs_split x1 x2 x3 x4 h)
/-! putNow -/
def r_putNow_244 (k144 : Int32 → Int32 → MS → Option (MS)) (x3 : Int32) (y1 : Int32) (y2 : Int32) (y3 : Int32) (y4 : Int32) (S : MS) : Option (MS) := (r_split S y1 y2 y3 y4).bind (fun S1 => (rd S1 4 x3).bind (fun v2 => k144 v2 x3 S1))
def r_putNow_144  : Nat → Int32 → Int32 → MS → Option (MS)
  | 0, _, _, _ => none
  | n + 1, x2, x3, S => (r_countOf S x2).bind (fun v3 => (rd S 0 4).bind (fun v4 => if v3 ≤ v4 then some S else if x3 = 0 then bd2 (r_newPage S 0) (fun v10 S11 => (r_insert S11 v10 0 0 0 0 x2).bind (fun S12 => (wr S12 0 2 v10).bind (fun S13 => (r_split S13 x2 v10 0 (-1)).bind (fun S14 => some S14)))) else (rd S 4 (x3 + (-1))).bind (fun v5 => (rd S 5 (x3 + (-1))).bind (fun v6 => if (x3 + (-1)) = 0 then r_putNow_244 (r_putNow_144 n) (x3 + (-1)) x2 v5 v6 (-1) S else (rd S 4 ((x3 + (-1)) - 1)).bind (fun v7 => (rd S 5 ((x3 + (-1)) - 1)).bind (fun v8 => (r_entryOf S v7 v8 0).bind (fun v9 => r_putNow_244 (r_putNow_144 n) (x3 + (-1)) x2 v5 v6 v9 S)))))))
def r_putNow_127  (x1 : Int32) (x2 : Int32) (x3 : Int32) (y0 : Int32) (S : MS) : Option (MS) := (r_countOf S x2).bind (fun v15 => (r_insert S x2 v15 x1 0 y0 (-1)).bind (fun S16 => r_putNow_144 FU x2 x3 S16))
def r_putNow_63 (k9 : Int32 → Int32 → Int32 → MS → Option (MS)) (x1 : Int32) (x2 : Int32) (x3 : Int32) (x4 : Int32) (S : MS) : Option (MS) := (wr S 4 x3 x2).bind (fun S17 => (wr S17 5 x3 x4).bind (fun S18 => (r_entryOf S18 x2 x4 3).bind (fun v19 => k9 x1 v19 (x3 + 1) S18)))
def r_putNow_9  : Nat → Int32 → Int32 → Int32 → MS → Option (MS)
  | 0, _, _, _, _ => none
  | n + 1, x1, x2, x3, S => (r_isLeaf S x2).bind (fun v20 => if v20 = 0 then bd2 (r_chosen S x2 x1) (fun v26 S27 => (r_entryOf S27 x2 v26 0).bind (fun v28 => bd2 (r_farOf S27 v28 x1) (fun v29 S30 => (r_entryOf S30 x2 v26 1).bind (fun v31 => if v29 ≤ v31 then r_putNow_63 (r_putNow_9 n) x1 x2 x3 v26 S30 else (r_letEntry S30 x2 v26 1 v29).bind (fun S32 => r_putNow_63 (r_putNow_9 n) x1 x2 x3 v26 S32))))) else if x3 = 0 then r_putNow_127 x1 x2 x3 0 S else (rd S 4 (x3 - 1)).bind (fun v21 => (rd S 5 (x3 - 1)).bind (fun v22 => (r_entryOf S v21 v22 0).bind (fun v23 => bd2 (r_farOf S v23 x1) (fun v24 S25 => r_putNow_127 x1 x2 x3 v24 S25)))))
def r_putNow (S : MS) (x1 : Int32) : Option (MS) := (rd S 0 2).bind (fun v33 => r_putNow_9 FU x1 v33 0 S)
set_option maxRecDepth 20000 in
theorem rs_putNow_244 {l : Launch} {κ : KMt} {Z : MS} (k144 : Int32 → Int32 → MS → Option (MS)) (h144 : ∀ (x2 : Int32) (x3 : Int32) (S : MS), k144 x2 x3 S = some Z → Go l (EM κ) RX12 cX12_putNow 6 none 9 231 0 0 none Z 144 [(0, .ref κ.o), (2, .int x2), (3, .int x3)] [] S) (x3 : Int32) (y1 : Int32) (y2 : Int32) (y3 : Int32) (y4 : Int32) (S : MS) (h : r_putNow_244 k144 x3 y1 y2 y3 y4 S = some Z) : Go l (EM κ) RX12 cX12_putNow 6 none 9 231 0 0 none Z 244 [(0, .ref κ.o), (3, .int x3)] [.int y4, .int y3, .int y2, .int y1, .ref κ.o] S := by
  unfold r_putNow_244 at h
  refine GM.callvu (rest := []) [.int y1, .int y2, .int y3, .int y4] dX12_putNow_244 ck_split ci_split (rt_split _ _ _ _) rfl rfl (Nat.le_of_ble_eq_true rfl) (Nat.le_of_ble_eq_true rfl) (Nat.le_of_ble_eq_true rfl) h (fun S1 h => ?_)
  refine Go.aload_n 0 dX12_putNow_247 rfl ?_
  refine GM.geta 4 4 (by decide) rfl fl_pathPage rfl dX12_putNow_248 ?_
  refine Go.iload_n 1 dX12_putNow_251 rfl ?_
  refine GM.iald 4 (by decide) rfl dX12_putNow_252 h (fun v2 h => ?_)
  refine Go.istore_n [(0, .ref κ.o), (2, .int v2), (3, .int x3)] dX12_putNow_253 (by decide) rfl ?_
  refine Go.goto 144 dX12_putNow_254 (by decide) ?_
  exact h144 _ _ _ h
set_option maxRecDepth 20000 in
theorem rs_putNow_144 {l : Launch} {κ : KMt} {Z : MS} (n : Nat) : ∀ (x2 : Int32) (x3 : Int32) (S : MS), r_putNow_144 n x2 x3 S = some Z → Go l (EM κ) RX12 cX12_putNow 6 none 9 231 0 0 none Z 144 [(0, .ref κ.o), (2, .int x2), (3, .int x3)] [] S := by
  induction n with
  | zero => intro x2 x3 S h; rw [r_putNow_144] at h; cases h
  | succ n ih =>
    intro x2 x3 S h
    rw [r_putNow_144] at h
    refine Go.aload_n 0 dX12_putNow_144 rfl ?_
    refine Go.iload_n 1 dX12_putNow_145 rfl ?_
    refine GM.callvr (rest := []) [.int x2] dX12_putNow_146 ck_countOf ci_countOf (rt_countOf _) rfl rfl (Nat.le_of_ble_eq_true rfl) (Nat.le_of_ble_eq_true rfl) (Nat.le_of_ble_eq_true rfl) h (fun v3 h => ?_)
    refine Go.aload_n 0 dX12_putNow_149 rfl ?_
    refine GM.geta 0 0 (by decide) rfl fl_a rfl dX12_putNow_150 ?_
    refine Go.iconst 4 dX12_putNow_153 (by decide) ?_
    refine GM.iald 0 (by decide) rfl dX12_putNow_154 h (fun v4 h => ?_)
    refine Go.icmp_le 257 dX12_putNow_155 (by decide) h (fun h => ?_) (fun h => ?_)
    · cases h
      exact Go.vret dX12_putNow_257 rfl
    · refine Go.iload_n 2 dX12_putNow_158 rfl ?_
      refine Go.if_ne 198 dX12_putNow_159 (by decide) h (fun h => ?_) (fun h => ?_)
      · refine Go.iinc (w := (-1)) 2 [(0, .ref κ.o), (2, .int x2), (3, .int (x3 + (-1)))] dX12_putNow_198 rfl (by decide) (by decide) rfl ?_
        refine Go.aload_n 0 dX12_putNow_201 rfl ?_
        refine Go.iload_n 1 dX12_putNow_202 rfl ?_
        refine Go.aload_n 0 dX12_putNow_203 rfl ?_
        refine GM.geta 4 4 (by decide) rfl fl_pathPage rfl dX12_putNow_204 ?_
        refine Go.iload_n 2 dX12_putNow_207 rfl ?_
        refine GM.iald 4 (by decide) rfl dX12_putNow_208 h (fun v5 h => ?_)
        refine Go.aload_n 0 dX12_putNow_209 rfl ?_
        refine GM.geta 5 5 (by decide) rfl fl_pathEntry rfl dX12_putNow_210 ?_
        refine Go.iload_n 2 dX12_putNow_213 rfl ?_
        refine GM.iald 5 (by decide) rfl dX12_putNow_214 h (fun v6 h => ?_)
        refine Go.iload_n 2 dX12_putNow_215 rfl ?_
        refine Go.if_ne 223 dX12_putNow_216 (by decide) h (fun h => ?_) (fun h => ?_)
        · refine Go.aload_n 0 dX12_putNow_223 rfl ?_
          refine Go.aload_n 0 dX12_putNow_224 rfl ?_
          refine GM.geta 4 4 (by decide) rfl fl_pathPage rfl dX12_putNow_225 ?_
          refine Go.iload_n 2 dX12_putNow_228 rfl ?_
          refine Go.iconst 1 dX12_putNow_229 (by decide) ?_
          refine Go.isub dX12_putNow_230 ?_
          refine GM.iald 4 (by decide) rfl dX12_putNow_231 h (fun v7 h => ?_)
          refine Go.aload_n 0 dX12_putNow_232 rfl ?_
          refine GM.geta 5 5 (by decide) rfl fl_pathEntry rfl dX12_putNow_233 ?_
          refine Go.iload_n 2 dX12_putNow_236 rfl ?_
          refine Go.iconst 1 dX12_putNow_237 (by decide) ?_
          refine Go.isub dX12_putNow_238 ?_
          refine GM.iald 5 (by decide) rfl dX12_putNow_239 h (fun v8 h => ?_)
          refine Go.iconst 0 dX12_putNow_240 (by decide) ?_
          refine GM.callvr (rest := [.int v6, .int v5, .int x2, .ref κ.o]) [.int v7, .int v8, .int 0] dX12_putNow_241 ck_entryOf ci_entryOf (rt_entryOf _ _ _) rfl rfl (Nat.le_of_ble_eq_true rfl) (Nat.le_of_ble_eq_true rfl) (Nat.le_of_ble_eq_true rfl) h (fun v9 h => ?_)
          refine Go.sub [0, 2] rfl ?_
          exact rs_putNow_244 _ ih _ _ _ _ _ _ h
        · refine Go.iconst (-1) dX12_putNow_219 (by decide) ?_
          refine Go.goto 244 dX12_putNow_220 (by decide) ?_
          refine Go.sub [0, 2] rfl ?_
          exact rs_putNow_244 _ ih _ _ _ _ _ _ h
      · refine Go.aload_n 0 dX12_putNow_162 rfl ?_
        refine Go.iconst 0 dX12_putNow_163 (by decide) ?_
        refine GM.callvw (rest := []) [.int 0] dX12_putNow_164 ck_newPage ci_newPage (rt_newPage _) rfl rfl (Nat.le_of_ble_eq_true rfl) (Nat.le_of_ble_eq_true rfl) (Nat.le_of_ble_eq_true rfl) h (fun v10 S11 h => ?_)
        refine Go.istore [(0, .ref κ.o), (2, .int x2), (3, .int x3), (5, .int v10)] dX12_putNow_167 (by decide) rfl ?_
        refine Go.aload_n 0 dX12_putNow_169 rfl ?_
        refine Go.iload 3 dX12_putNow_170 rfl ?_
        refine Go.iconst 0 dX12_putNow_172 (by decide) ?_
        refine Go.iconst 0 dX12_putNow_173 (by decide) ?_
        refine Go.iconst 0 dX12_putNow_174 (by decide) ?_
        refine Go.iconst 0 dX12_putNow_175 (by decide) ?_
        refine Go.iload_n 1 dX12_putNow_176 rfl ?_
        refine GM.callvu (rest := []) [.int v10, .int 0, .int 0, .int 0, .int 0, .int x2] dX12_putNow_177 ck_insert ci_insert (rt_insert _ _ _ _ _ _) rfl rfl (Nat.le_of_ble_eq_true rfl) (Nat.le_of_ble_eq_true rfl) (Nat.le_of_ble_eq_true rfl) h (fun S12 h => ?_)
        refine Go.aload_n 0 dX12_putNow_180 rfl ?_
        refine GM.geta 0 0 (by decide) rfl fl_a rfl dX12_putNow_181 ?_
        refine Go.iconst 2 dX12_putNow_184 (by decide) ?_
        refine Go.iload 3 dX12_putNow_185 rfl ?_
        refine GM.iast 0 (by decide) rfl dX12_putNow_187 h (fun S13 h => ?_)
        refine Go.aload_n 0 dX12_putNow_188 rfl ?_
        refine Go.iload_n 1 dX12_putNow_189 rfl ?_
        refine Go.iload 3 dX12_putNow_190 rfl ?_
        refine Go.iconst 0 dX12_putNow_192 (by decide) ?_
        refine Go.iconst (-1) dX12_putNow_193 (by decide) ?_
        refine GM.callvu (rest := []) [.int x2, .int v10, .int 0, .int (-1)] dX12_putNow_194 ck_split ci_split (rt_split _ _ _ _) rfl rfl (Nat.le_of_ble_eq_true rfl) (Nat.le_of_ble_eq_true rfl) (Nat.le_of_ble_eq_true rfl) h (fun S14 h => ?_)
        cases h
        exact Go.vret dX12_putNow_197 rfl
set_option maxRecDepth 20000 in
theorem rs_putNow_127 {l : Launch} {κ : KMt} {Z : MS} (x1 : Int32) (x2 : Int32) (x3 : Int32) (y0 : Int32) (S : MS) (h : r_putNow_127 x1 x2 x3 y0 S = some Z) : Go l (EM κ) RX12 cX12_putNow 6 none 9 231 0 0 none Z 127 [(0, .ref κ.o), (1, .int x1), (2, .int x2), (3, .int x3)] [.int y0] S := by
  unfold r_putNow_127 at h
  refine Go.istore [(0, .ref κ.o), (1, .int x1), (2, .int x2), (3, .int x3), (4, .int y0)] dX12_putNow_127 (by decide) rfl ?_
  refine Go.aload_n 0 dX12_putNow_129 rfl ?_
  refine Go.iload_n 2 dX12_putNow_130 rfl ?_
  refine Go.aload_n 0 dX12_putNow_131 rfl ?_
  refine Go.iload_n 2 dX12_putNow_132 rfl ?_
  refine GM.callvr (rest := [.int x2, .ref κ.o]) [.int x2] dX12_putNow_133 ck_countOf ci_countOf (rt_countOf _) rfl rfl (Nat.le_of_ble_eq_true rfl) (Nat.le_of_ble_eq_true rfl) (Nat.le_of_ble_eq_true rfl) h (fun v15 h => ?_)
  refine Go.iload_n 1 dX12_putNow_136 rfl ?_
  refine Go.iconst 0 dX12_putNow_137 (by decide) ?_
  refine Go.iload 4 dX12_putNow_138 rfl ?_
  refine Go.iconst (-1) dX12_putNow_140 (by decide) ?_
  refine GM.callvu (rest := []) [.int x2, .int v15, .int x1, .int 0, .int y0, .int (-1)] dX12_putNow_141 ck_insert ci_insert (rt_insert _ _ _ _ _ _) rfl rfl (Nat.le_of_ble_eq_true rfl) (Nat.le_of_ble_eq_true rfl) (Nat.le_of_ble_eq_true rfl) h (fun S16 h => ?_)
  refine Go.sub [0, 2, 3] rfl ?_
  exact rs_putNow_144 _ _ _ _ h
set_option maxRecDepth 20000 in
theorem rs_putNow_63 {l : Launch} {κ : KMt} {Z : MS} (k9 : Int32 → Int32 → Int32 → MS → Option (MS)) (h9 : ∀ (x1 : Int32) (x2 : Int32) (x3 : Int32) (S : MS), k9 x1 x2 x3 S = some Z → Go l (EM κ) RX12 cX12_putNow 6 none 9 231 0 0 none Z 9 [(0, .ref κ.o), (1, .int x1), (2, .int x2), (3, .int x3)] [] S) (x1 : Int32) (x2 : Int32) (x3 : Int32) (x4 : Int32) (S : MS) (h : r_putNow_63 k9 x1 x2 x3 x4 S = some Z) : Go l (EM κ) RX12 cX12_putNow 6 none 9 231 0 0 none Z 63 [(0, .ref κ.o), (1, .int x1), (2, .int x2), (3, .int x3), (4, .int x4)] [] S := by
  unfold r_putNow_63 at h
  refine Go.aload_n 0 dX12_putNow_63 rfl ?_
  refine GM.geta 4 4 (by decide) rfl fl_pathPage rfl dX12_putNow_64 ?_
  refine Go.iload_n 3 dX12_putNow_67 rfl ?_
  refine Go.iload_n 2 dX12_putNow_68 rfl ?_
  refine GM.iast 4 (by decide) rfl dX12_putNow_69 h (fun S17 h => ?_)
  refine Go.aload_n 0 dX12_putNow_70 rfl ?_
  refine GM.geta 5 5 (by decide) rfl fl_pathEntry rfl dX12_putNow_71 ?_
  refine Go.iload_n 3 dX12_putNow_74 rfl ?_
  refine Go.iload 4 dX12_putNow_75 rfl ?_
  refine GM.iast 5 (by decide) rfl dX12_putNow_77 h (fun S18 h => ?_)
  refine Go.iinc (w := 1) 3 [(0, .ref κ.o), (1, .int x1), (2, .int x2), (3, .int (x3 + 1)), (4, .int x4)] dX12_putNow_78 rfl (by decide) (by decide) rfl ?_
  refine Go.aload_n 0 dX12_putNow_81 rfl ?_
  refine Go.iload_n 2 dX12_putNow_82 rfl ?_
  refine Go.iload 4 dX12_putNow_83 rfl ?_
  refine Go.iconst 3 dX12_putNow_85 (by decide) ?_
  refine GM.callvr (rest := []) [.int x2, .int x4, .int 3] dX12_putNow_86 ck_entryOf ci_entryOf (rt_entryOf _ _ _) rfl rfl (Nat.le_of_ble_eq_true rfl) (Nat.le_of_ble_eq_true rfl) (Nat.le_of_ble_eq_true rfl) h (fun v19 h => ?_)
  refine Go.istore_n [(0, .ref κ.o), (1, .int x1), (2, .int v19), (3, .int (x3 + 1)), (4, .int x4)] dX12_putNow_89 (by decide) rfl ?_
  refine Go.goto 9 dX12_putNow_90 (by decide) ?_
  refine Go.sub [0, 1, 2, 3] rfl ?_
  exact h9 _ _ _ _ h
set_option maxRecDepth 20000 in
theorem rs_putNow_9 {l : Launch} {κ : KMt} {Z : MS} (n : Nat) : ∀ (x1 : Int32) (x2 : Int32) (x3 : Int32) (S : MS), r_putNow_9 n x1 x2 x3 S = some Z → Go l (EM κ) RX12 cX12_putNow 6 none 9 231 0 0 none Z 9 [(0, .ref κ.o), (1, .int x1), (2, .int x2), (3, .int x3)] [] S := by
  induction n with
  | zero => intro x1 x2 x3 S h; rw [r_putNow_9] at h; cases h
  | succ n ih =>
    intro x1 x2 x3 S h
    rw [r_putNow_9] at h
    refine Go.aload_n 0 dX12_putNow_9 rfl ?_
    refine Go.iload_n 2 dX12_putNow_10 rfl ?_
    refine GM.callvr (rest := []) [.int x2] dX12_putNow_11 ck_isLeaf ci_isLeaf (rt_isLeaf _) rfl rfl (Nat.le_of_ble_eq_true rfl) (Nat.le_of_ble_eq_true rfl) (Nat.le_of_ble_eq_true rfl) h (fun v20 h => ?_)
    refine Go.if_ne 93 dX12_putNow_14 (by decide) h (fun h => ?_) (fun h => ?_)
    · refine Go.iload_n 3 dX12_putNow_93 rfl ?_
      refine Go.if_ne 101 dX12_putNow_94 (by decide) h (fun h => ?_) (fun h => ?_)
      · refine Go.aload_n 0 dX12_putNow_101 rfl ?_
        refine Go.aload_n 0 dX12_putNow_102 rfl ?_
        refine Go.aload_n 0 dX12_putNow_103 rfl ?_
        refine GM.geta 4 4 (by decide) rfl fl_pathPage rfl dX12_putNow_104 ?_
        refine Go.iload_n 3 dX12_putNow_107 rfl ?_
        refine Go.iconst 1 dX12_putNow_108 (by decide) ?_
        refine Go.isub dX12_putNow_109 ?_
        refine GM.iald 4 (by decide) rfl dX12_putNow_110 h (fun v21 h => ?_)
        refine Go.aload_n 0 dX12_putNow_111 rfl ?_
        refine GM.geta 5 5 (by decide) rfl fl_pathEntry rfl dX12_putNow_112 ?_
        refine Go.iload_n 3 dX12_putNow_115 rfl ?_
        refine Go.iconst 1 dX12_putNow_116 (by decide) ?_
        refine Go.isub dX12_putNow_117 ?_
        refine GM.iald 5 (by decide) rfl dX12_putNow_118 h (fun v22 h => ?_)
        refine Go.iconst 0 dX12_putNow_119 (by decide) ?_
        refine GM.callvr (rest := [.ref κ.o]) [.int v21, .int v22, .int 0] dX12_putNow_120 ck_entryOf ci_entryOf (rt_entryOf _ _ _) rfl rfl (Nat.le_of_ble_eq_true rfl) (Nat.le_of_ble_eq_true rfl) (Nat.le_of_ble_eq_true rfl) h (fun v23 h => ?_)
        refine Go.iload_n 1 dX12_putNow_123 rfl ?_
        refine GM.callvw (rest := []) [.int v23, .int x1] dX12_putNow_124 ck_farOf ci_farOf (rt_farOf _ _) rfl rfl (Nat.le_of_ble_eq_true rfl) (Nat.le_of_ble_eq_true rfl) (Nat.le_of_ble_eq_true rfl) h (fun v24 S25 h => ?_)
        exact rs_putNow_127 _ _ _ _ _ h
      · refine Go.iconst 0 dX12_putNow_97 (by decide) ?_
        refine Go.goto 127 dX12_putNow_98 (by decide) ?_
        exact rs_putNow_127 _ _ _ _ _ h
    · refine Go.aload_n 0 dX12_putNow_17 rfl ?_
      refine Go.iload_n 2 dX12_putNow_18 rfl ?_
      refine Go.iload_n 1 dX12_putNow_19 rfl ?_
      refine GM.callvw (rest := []) [.int x2, .int x1] dX12_putNow_20 ck_chosen ci_chosen (rt_chosen _ _) rfl rfl (Nat.le_of_ble_eq_true rfl) (Nat.le_of_ble_eq_true rfl) (Nat.le_of_ble_eq_true rfl) h (fun v26 S27 h => ?_)
      refine Go.istore [(0, .ref κ.o), (1, .int x1), (2, .int x2), (3, .int x3), (4, .int v26)] dX12_putNow_23 (by decide) rfl ?_
      refine Go.aload_n 0 dX12_putNow_25 rfl ?_
      refine Go.aload_n 0 dX12_putNow_26 rfl ?_
      refine Go.iload_n 2 dX12_putNow_27 rfl ?_
      refine Go.iload 4 dX12_putNow_28 rfl ?_
      refine Go.iconst 0 dX12_putNow_30 (by decide) ?_
      refine GM.callvr (rest := [.ref κ.o]) [.int x2, .int v26, .int 0] dX12_putNow_31 ck_entryOf ci_entryOf (rt_entryOf _ _ _) rfl rfl (Nat.le_of_ble_eq_true rfl) (Nat.le_of_ble_eq_true rfl) (Nat.le_of_ble_eq_true rfl) h (fun v28 h => ?_)
      refine Go.iload_n 1 dX12_putNow_34 rfl ?_
      refine GM.callvw (rest := []) [.int v28, .int x1] dX12_putNow_35 ck_farOf ci_farOf (rt_farOf _ _) rfl rfl (Nat.le_of_ble_eq_true rfl) (Nat.le_of_ble_eq_true rfl) (Nat.le_of_ble_eq_true rfl) h (fun v29 S30 h => ?_)
      refine Go.istore [(0, .ref κ.o), (1, .int x1), (2, .int x2), (3, .int x3), (4, .int v26), (5, .int v29)] dX12_putNow_38 (by decide) rfl ?_
      refine Go.iload 5 dX12_putNow_40 rfl ?_
      refine Go.aload_n 0 dX12_putNow_42 rfl ?_
      refine Go.iload_n 2 dX12_putNow_43 rfl ?_
      refine Go.iload 4 dX12_putNow_44 rfl ?_
      refine Go.iconst 1 dX12_putNow_46 (by decide) ?_
      refine GM.callvr (rest := [.int v29]) [.int x2, .int v26, .int 1] dX12_putNow_47 ck_entryOf ci_entryOf (rt_entryOf _ _ _) rfl rfl (Nat.le_of_ble_eq_true rfl) (Nat.le_of_ble_eq_true rfl) (Nat.le_of_ble_eq_true rfl) h (fun v31 h => ?_)
      refine Go.icmp_le 63 dX12_putNow_50 (by decide) h (fun h => ?_) (fun h => ?_)
      · refine Go.sub [0, 1, 2, 3, 4] rfl ?_
        exact rs_putNow_63 _ ih _ _ _ _ _ h
      · refine Go.aload_n 0 dX12_putNow_53 rfl ?_
        refine Go.iload_n 2 dX12_putNow_54 rfl ?_
        refine Go.iload 4 dX12_putNow_55 rfl ?_
        refine Go.iconst 1 dX12_putNow_57 (by decide) ?_
        refine Go.iload 5 dX12_putNow_58 rfl ?_
        refine GM.callvu (rest := []) [.int x2, .int v26, .int 1, .int v29] dX12_putNow_60 ck_letEntry ci_letEntry (rt_letEntry _ _ _ _) rfl rfl (Nat.le_of_ble_eq_true rfl) (Nat.le_of_ble_eq_true rfl) (Nat.le_of_ble_eq_true rfl) h (fun S32 h => ?_)
        refine Go.sub [0, 1, 2, 3, 4] rfl ?_
        exact rs_putNow_63 _ ih _ _ _ _ _ h
set_option maxRecDepth 20000 in
theorem rs_putNow {l : Launch} {κ : KMt} {S : MS} {Z : MS} (x1 : Int32) (h : r_putNow S x1 = some Z) : Go l (EM κ) RX12 cX12_putNow 6 none 9 231 0 0 none Z 0 [(0, .ref κ.o), (1, .int x1)] [] S := by
  unfold r_putNow at h
  refine Go.aload_n 0 dX12_putNow_0 rfl ?_
  refine GM.geta 0 0 (by decide) rfl fl_a rfl dX12_putNow_1 ?_
  refine Go.iconst 2 dX12_putNow_4 (by decide) ?_
  refine GM.iald 0 (by decide) rfl dX12_putNow_5 h (fun v33 h => ?_)
  refine Go.istore_n [(0, .ref κ.o), (1, .int x1), (2, .int v33)] dX12_putNow_6 (by decide) rfl ?_
  refine Go.iconst 0 dX12_putNow_7 (by decide) ?_
  refine Go.istore_n [(0, .ref κ.o), (1, .int x1), (2, .int v33), (3, .int 0)] dX12_putNow_8 (by decide) rfl ?_
  exact rs_putNow_9 _ _ _ _ _ h
set_option maxRecDepth 20000 in
theorem rt_putNow {l : Launch} {κ : KMt} {S : MS} (x1 : Int32) : ∀ Z, r_putNow S x1 = some Z → MtM l κ yX12_putNow cX12_putNow 6 none 9 231 [.ref κ.o, .int x1] S none Z := fun Z h => MtM.of (by decide +kernel) rfl (Nat.le_of_ble_eq_true rfl) ⟨rfl, rfl, trivial⟩ (rs_putNow x1 h)
/-! buildNow -/
def r_buildNow_25 (k6 : Int32 → MS → Option (MS)) (x1 : Int32) (S : MS) : Option (MS) := k6 (x1 + 1) S
def r_buildNow_6  : Nat → Int32 → MS → Option (MS)
  | 0, _, _ => none
  | n + 1, x1, S => if 40 ≤ x1 then some S else (r_isThing S x1).bind (fun v1 => if v1 = 0 then r_buildNow_25 (r_buildNow_6 n) x1 S else (r_putNow S x1).bind (fun S2 => r_buildNow_25 (r_buildNow_6 n) x1 S2))
def r_buildNow (S : MS)  : Option (MS) := (r_clearTree S ).bind (fun S3 => r_buildNow_6 FU 0 S3)
set_option maxRecDepth 20000 in
theorem rs_buildNow_25 {l : Launch} {κ : KMt} {Z : MS} (k6 : Int32 → MS → Option (MS)) (h6 : ∀ (x1 : Int32) (S : MS), k6 x1 S = some Z → Go l (EM κ) RX12 cX12_buildNow 2 none 10 256 0 0 none Z 6 [(0, .ref κ.o), (1, .int x1)] [] S) (x1 : Int32) (S : MS) (h : r_buildNow_25 k6 x1 S = some Z) : Go l (EM κ) RX12 cX12_buildNow 2 none 10 256 0 0 none Z 25 [(0, .ref κ.o), (1, .int x1)] [] S := by
  unfold r_buildNow_25 at h
  refine Go.iinc (w := 1) 1 [(0, .ref κ.o), (1, .int (x1 + 1))] dX12_buildNow_25 rfl (by decide) (by decide) rfl ?_
  refine Go.goto 6 dX12_buildNow_28 (by decide) ?_
  exact h6 _ _ h
set_option maxRecDepth 20000 in
theorem rs_buildNow_6 {l : Launch} {κ : KMt} {Z : MS} (n : Nat) : ∀ (x1 : Int32) (S : MS), r_buildNow_6 n x1 S = some Z → Go l (EM κ) RX12 cX12_buildNow 2 none 10 256 0 0 none Z 6 [(0, .ref κ.o), (1, .int x1)] [] S := by
  induction n with
  | zero => intro x1 S h; rw [r_buildNow_6] at h; cases h
  | succ n ih =>
    intro x1 S h
    rw [r_buildNow_6] at h
    refine Go.iload_n 1 dX12_buildNow_6 rfl ?_
    refine Go.bipush 40 dX12_buildNow_7 (by decide) ?_
    refine Go.icmp_ge 31 dX12_buildNow_9 (by decide) h (fun h => ?_) (fun h => ?_)
    · cases h
      exact Go.vret dX12_buildNow_31 rfl
    · refine Go.aload_n 0 dX12_buildNow_12 rfl ?_
      refine Go.iload_n 1 dX12_buildNow_13 rfl ?_
      refine GM.callvr (rest := []) [.int x1] dX12_buildNow_14 ck_isThing ci_isThing (rt_isThing _) rfl rfl (Nat.le_of_ble_eq_true rfl) (Nat.le_of_ble_eq_true rfl) (Nat.le_of_ble_eq_true rfl) h (fun v1 h => ?_)
      refine Go.if_eq 25 dX12_buildNow_17 (by decide) h (fun h => ?_) (fun h => ?_)
      · exact rs_buildNow_25 _ ih _ _ h
      · refine Go.aload_n 0 dX12_buildNow_20 rfl ?_
        refine Go.iload_n 1 dX12_buildNow_21 rfl ?_
        refine GM.callvu (rest := []) [.int x1] dX12_buildNow_22 ck_putNow ci_putNow (rt_putNow _) rfl rfl (Nat.le_of_ble_eq_true rfl) (Nat.le_of_ble_eq_true rfl) (Nat.le_of_ble_eq_true rfl) h (fun S2 h => ?_)
        exact rs_buildNow_25 _ ih _ _ h
set_option maxRecDepth 20000 in
theorem rs_buildNow {l : Launch} {κ : KMt} {S : MS} {Z : MS}  (h : r_buildNow S  = some Z) : Go l (EM κ) RX12 cX12_buildNow 2 none 10 256 0 0 none Z 0 [(0, .ref κ.o)] [] S := by
  unfold r_buildNow at h
  refine Go.aload_n 0 dX12_buildNow_0 rfl ?_
  refine GM.callvu (rest := []) [] dX12_buildNow_1 ck_clearTree ci_clearTree (rt_clearTree ) rfl rfl (Nat.le_of_ble_eq_true rfl) (Nat.le_of_ble_eq_true rfl) (Nat.le_of_ble_eq_true rfl) h (fun S3 h => ?_)
  refine Go.iconst 0 dX12_buildNow_4 (by decide) ?_
  refine Go.istore_n [(0, .ref κ.o), (1, .int 0)] dX12_buildNow_5 (by decide) rfl ?_
  exact rs_buildNow_6 _ _ _ h
set_option maxRecDepth 20000 in
theorem rt_buildNow {l : Launch} {κ : KMt} {S : MS}  : ∀ Z, r_buildNow S  = some Z → MtM l κ yX12_buildNow cX12_buildNow 2 none 10 256 [.ref κ.o] S none Z := fun Z h => MtM.of (by decide +kernel) rfl (Nat.le_of_ble_eq_true rfl) ⟨rfl, trivial⟩ (rs_buildNow  h)
/-! isCentre -/
def r_isCentre_41 (S : MS) (k2 : Int32 → Int32 → Option (Int32)) (k11 : Int32 → Int32 → Int32 → Option (Int32)) (x1 : Int32) (x2 : Int32) (x3 : Int32) : Option (Int32) := k11 x1 x2 (x3 + 1)
def r_isCentre_11 (S : MS) (k2 : Int32 → Int32 → Option (Int32)) : Nat → Int32 → Int32 → Int32 → Option (Int32)
  | 0, _, _, _ => none
  | n + 1, x1, x2, x3 => (r_countOf S x2).bind (fun v1 => if v1 ≤ x3 then k2 x1 (x2 + 1) else (r_isLeaf S x2).bind (fun v2 => if v2 = 0 then (r_entryOf S x2 x3 0).bind (fun v3 => if v3 = x1 then zb 1 else r_isCentre_41 S k2 (r_isCentre_11 S k2 n) x1 x2 x3) else r_isCentre_41 S k2 (r_isCentre_11 S k2 n) x1 x2 x3))
def r_isCentre_2 (S : MS)  : Nat → Int32 → Int32 → Option (Int32)
  | 0, _, _ => none
  | n + 1, x1, x2 => if 784 ≤ x2 then zb 0 else r_isCentre_11 S (r_isCentre_2 S n) FU x1 x2 0
def r_isCentre (S : MS) (x1 : Int32) : Option (Int32) := r_isCentre_2 S FU x1 0
set_option maxRecDepth 20000 in
theorem rs_isCentre_41 {l : Launch} {κ : KMt} {S : MS} {Z : Int32} (k2 : Int32 → Int32 → Option (Int32)) (h2 : ∀ (x1 : Int32) (x2 : Int32), k2 x1 x2 = some Z → Go l (EM κ) RX12 cX12_isCentre 4 (some .boolean) 2 45 0 0 (some (.int Z)) S 2 [(0, .ref κ.o), (1, .int x1), (2, .int x2)] [] S) (k11 : Int32 → Int32 → Int32 → Option (Int32)) (h11 : ∀ (x1 : Int32) (x2 : Int32) (x3 : Int32), k11 x1 x2 x3 = some Z → Go l (EM κ) RX12 cX12_isCentre 4 (some .boolean) 2 45 0 0 (some (.int Z)) S 11 [(0, .ref κ.o), (1, .int x1), (2, .int x2), (3, .int x3)] [] S) (x1 : Int32) (x2 : Int32) (x3 : Int32) (h : r_isCentre_41 S k2 k11 x1 x2 x3 = some Z) : Go l (EM κ) RX12 cX12_isCentre 4 (some .boolean) 2 45 0 0 (some (.int Z)) S 41 [(0, .ref κ.o), (1, .int x1), (2, .int x2), (3, .int x3)] [] S := by
  unfold r_isCentre_41 at h
  refine Go.iinc (w := 1) 3 [(0, .ref κ.o), (1, .int x1), (2, .int x2), (3, .int (x3 + 1))] dX12_isCentre_41 rfl (by decide) (by decide) rfl ?_
  refine Go.goto 11 dX12_isCentre_44 (by decide) ?_
  exact h11 _ _ _ h
set_option maxRecDepth 20000 in
theorem rs_isCentre_11 {l : Launch} {κ : KMt} {S : MS} {Z : Int32} (k2 : Int32 → Int32 → Option (Int32)) (h2 : ∀ (x1 : Int32) (x2 : Int32), k2 x1 x2 = some Z → Go l (EM κ) RX12 cX12_isCentre 4 (some .boolean) 2 45 0 0 (some (.int Z)) S 2 [(0, .ref κ.o), (1, .int x1), (2, .int x2)] [] S) (n : Nat) : ∀ (x1 : Int32) (x2 : Int32) (x3 : Int32), r_isCentre_11 S k2 n x1 x2 x3 = some Z → Go l (EM κ) RX12 cX12_isCentre 4 (some .boolean) 2 45 0 0 (some (.int Z)) S 11 [(0, .ref κ.o), (1, .int x1), (2, .int x2), (3, .int x3)] [] S := by
  induction n with
  | zero => intro x1 x2 x3 h; rw [r_isCentre_11] at h; cases h
  | succ n ih =>
    intro x1 x2 x3 h
    rw [r_isCentre_11] at h
    refine Go.iload_n 3 dX12_isCentre_11 rfl ?_
    refine Go.aload_n 0 dX12_isCentre_12 rfl ?_
    refine Go.iload_n 2 dX12_isCentre_13 rfl ?_
    refine GM.callvr (rest := [.int x3]) [.int x2] dX12_isCentre_14 ck_countOf ci_countOf (rt_countOf _) rfl rfl (Nat.le_of_ble_eq_true rfl) (Nat.le_of_ble_eq_true rfl) (Nat.le_of_ble_eq_true rfl) h (fun v1 h => ?_)
    refine Go.icmp_ge 47 dX12_isCentre_17 (by decide) h (fun h => ?_) (fun h => ?_)
    · refine Go.iinc (w := 1) 2 [(0, .ref κ.o), (1, .int x1), (2, .int (x2 + 1)), (3, .int x3)] dX12_isCentre_47 rfl (by decide) (by decide) rfl ?_
      refine Go.goto 2 dX12_isCentre_50 (by decide) ?_
      refine Go.sub [0, 1, 2] rfl ?_
      exact h2 _ _ h
    · refine Go.aload_n 0 dX12_isCentre_20 rfl ?_
      refine Go.iload_n 2 dX12_isCentre_21 rfl ?_
      refine GM.callvr (rest := []) [.int x2] dX12_isCentre_22 ck_isLeaf ci_isLeaf (rt_isLeaf _) rfl rfl (Nat.le_of_ble_eq_true rfl) (Nat.le_of_ble_eq_true rfl) (Nat.le_of_ble_eq_true rfl) h (fun v2 h => ?_)
      refine Go.if_ne 41 dX12_isCentre_25 (by decide) h (fun h => ?_) (fun h => ?_)
      · exact rs_isCentre_41 _ h2 _ ih _ _ _ h
      · refine Go.aload_n 0 dX12_isCentre_28 rfl ?_
        refine Go.iload_n 2 dX12_isCentre_29 rfl ?_
        refine Go.iload_n 3 dX12_isCentre_30 rfl ?_
        refine Go.iconst 0 dX12_isCentre_31 (by decide) ?_
        refine GM.callvr (rest := []) [.int x2, .int x3, .int 0] dX12_isCentre_32 ck_entryOf ci_entryOf (rt_entryOf _ _ _) rfl rfl (Nat.le_of_ble_eq_true rfl) (Nat.le_of_ble_eq_true rfl) (Nat.le_of_ble_eq_true rfl) h (fun v3 h => ?_)
        refine Go.iload_n 1 dX12_isCentre_35 rfl ?_
        refine Go.icmp_ne 41 dX12_isCentre_36 (by decide) h (fun h => ?_) (fun h => ?_)
        · exact rs_isCentre_41 _ h2 _ ih _ _ _ h
        · refine Go.iconst 1 dX12_isCentre_39 (by decide) ?_
          exact Go.zret dX12_isCentre_40 rfl h
set_option maxRecDepth 20000 in
theorem rs_isCentre_2 {l : Launch} {κ : KMt} {S : MS} {Z : Int32} (n : Nat) : ∀ (x1 : Int32) (x2 : Int32), r_isCentre_2 S n x1 x2 = some Z → Go l (EM κ) RX12 cX12_isCentre 4 (some .boolean) 2 45 0 0 (some (.int Z)) S 2 [(0, .ref κ.o), (1, .int x1), (2, .int x2)] [] S := by
  induction n with
  | zero => intro x1 x2 h; rw [r_isCentre_2] at h; cases h
  | succ n ih =>
    intro x1 x2 h
    rw [r_isCentre_2] at h
    refine Go.iload_n 2 dX12_isCentre_2 rfl ?_
    refine Go.sipush 784 dX12_isCentre_3 (by decide) ?_
    refine Go.icmp_ge 53 dX12_isCentre_6 (by decide) h (fun h => ?_) (fun h => ?_)
    · refine Go.iconst 0 dX12_isCentre_53 (by decide) ?_
      exact Go.zret dX12_isCentre_54 rfl h
    · refine Go.iconst 0 dX12_isCentre_9 (by decide) ?_
      refine Go.istore_n [(0, .ref κ.o), (1, .int x1), (2, .int x2), (3, .int 0)] dX12_isCentre_10 (by decide) rfl ?_
      exact rs_isCentre_11 _ ih _ _ _ _ h
set_option maxRecDepth 20000 in
theorem rs_isCentre {l : Launch} {κ : KMt} {S : MS} {Z : Int32} (x1 : Int32) (h : r_isCentre S x1 = some Z) : Go l (EM κ) RX12 cX12_isCentre 4 (some .boolean) 2 45 0 0 (some (.int Z)) S 0 [(0, .ref κ.o), (1, .int x1)] [] S := by
  unfold r_isCentre at h
  refine Go.iconst 0 dX12_isCentre_0 (by decide) ?_
  refine Go.istore_n [(0, .ref κ.o), (1, .int x1), (2, .int 0)] dX12_isCentre_1 (by decide) rfl ?_
  exact rs_isCentre_2 _ _ _ h
set_option maxRecDepth 20000 in
theorem rt_isCentre {l : Launch} {κ : KMt} {S : MS} (x1 : Int32) : ∀ Z, r_isCentre S x1 = some Z → MtM l κ yX12_isCentre cX12_isCentre 4 (some .boolean) 2 45 [.ref κ.o, .int x1] S (some (.int Z)) S := fun Z h => MtM.of (by decide +kernel) rfl (Nat.le_of_ble_eq_true rfl) ⟨rfl, rfl, trivial⟩ (rs_isCentre x1 h)
/-! holderOf -/
def r_holderOf_60 (k3 : Int32 → Int32 → Int32 → Int32 → MS → Option (Int32 × MS)) (k14 : Int32 → Int32 → Int32 → Int32 → Int32 → MS → Option (Int32 × MS)) (x1 : Int32) (x2 : Int32) (x3 : Int32) (x4 : Int32) (x5 : Int32) (S : MS) : Option (Int32 × MS) := k14 x1 x2 x3 x4 (x5 + 1) S
def r_holderOf_14 (k3 : Int32 → Int32 → Int32 → Int32 → MS → Option (Int32 × MS)) : Nat → Int32 → Int32 → Int32 → Int32 → Int32 → MS → Option (Int32 × MS)
  | 0, _, _, _, _, _, _ => none
  | n + 1, x1, x2, x3, x4, x5, S => (r_countOf S x4).bind (fun v1 => if v1 ≤ x5 then k3 x1 x2 x3 (x4 + 1) S else (r_isLeaf S x4).bind (fun v2 => if v2 = x3 then (r_entryOf S x4 x5 x1).bind (fun v3 => if v3 = x2 then some (x4, (pf S 14 x5)) else r_holderOf_60 k3 (r_holderOf_14 k3 n) x1 x2 x3 x4 x5 S) else r_holderOf_60 k3 (r_holderOf_14 k3 n) x1 x2 x3 x4 x5 S))
def r_holderOf_3  : Nat → Int32 → Int32 → Int32 → Int32 → MS → Option (Int32 × MS)
  | 0, _, _, _, _, _ => none
  | n + 1, x1, x2, x3, x4, S => if 784 ≤ x4 then some ((-1), S) else r_holderOf_14 (r_holderOf_3 n) FU x1 x2 x3 x4 0 S
def r_holderOf (S : MS) (x1 : Int32) (x2 : Int32) (x3 : Int32) : Option (Int32 × MS) := r_holderOf_3 FU x1 x2 x3 0 S
set_option maxRecDepth 20000 in
theorem rs_holderOf_60 {l : Launch} {κ : KMt} {Z : Int32 × MS} (k3 : Int32 → Int32 → Int32 → Int32 → MS → Option (Int32 × MS)) (h3 : ∀ (x1 : Int32) (x2 : Int32) (x3 : Int32) (x4 : Int32) (S : MS), k3 x1 x2 x3 x4 S = some Z → Go l (EM κ) RX12 cX12_holderOf 6 (some .int) 2 45 0 0 (some (.int Z.1)) Z.2 3 [(0, .ref κ.o), (1, .int x1), (2, .int x2), (3, .int x3), (4, .int x4)] [] S) (k14 : Int32 → Int32 → Int32 → Int32 → Int32 → MS → Option (Int32 × MS)) (h14 : ∀ (x1 : Int32) (x2 : Int32) (x3 : Int32) (x4 : Int32) (x5 : Int32) (S : MS), k14 x1 x2 x3 x4 x5 S = some Z → Go l (EM κ) RX12 cX12_holderOf 6 (some .int) 2 45 0 0 (some (.int Z.1)) Z.2 14 [(0, .ref κ.o), (1, .int x1), (2, .int x2), (3, .int x3), (4, .int x4), (5, .int x5)] [] S) (x1 : Int32) (x2 : Int32) (x3 : Int32) (x4 : Int32) (x5 : Int32) (S : MS) (h : r_holderOf_60 k3 k14 x1 x2 x3 x4 x5 S = some Z) : Go l (EM κ) RX12 cX12_holderOf 6 (some .int) 2 45 0 0 (some (.int Z.1)) Z.2 60 [(0, .ref κ.o), (1, .int x1), (2, .int x2), (3, .int x3), (4, .int x4), (5, .int x5)] [] S := by
  unfold r_holderOf_60 at h
  refine Go.iinc (w := 1) 5 [(0, .ref κ.o), (1, .int x1), (2, .int x2), (3, .int x3), (4, .int x4), (5, .int (x5 + 1))] dX12_holderOf_60 rfl (by decide) (by decide) rfl ?_
  refine Go.goto 14 dX12_holderOf_63 (by decide) ?_
  exact h14 _ _ _ _ _ _ h
set_option maxRecDepth 20000 in
theorem rs_holderOf_14 {l : Launch} {κ : KMt} {Z : Int32 × MS} (k3 : Int32 → Int32 → Int32 → Int32 → MS → Option (Int32 × MS)) (h3 : ∀ (x1 : Int32) (x2 : Int32) (x3 : Int32) (x4 : Int32) (S : MS), k3 x1 x2 x3 x4 S = some Z → Go l (EM κ) RX12 cX12_holderOf 6 (some .int) 2 45 0 0 (some (.int Z.1)) Z.2 3 [(0, .ref κ.o), (1, .int x1), (2, .int x2), (3, .int x3), (4, .int x4)] [] S) (n : Nat) : ∀ (x1 : Int32) (x2 : Int32) (x3 : Int32) (x4 : Int32) (x5 : Int32) (S : MS), r_holderOf_14 k3 n x1 x2 x3 x4 x5 S = some Z → Go l (EM κ) RX12 cX12_holderOf 6 (some .int) 2 45 0 0 (some (.int Z.1)) Z.2 14 [(0, .ref κ.o), (1, .int x1), (2, .int x2), (3, .int x3), (4, .int x4), (5, .int x5)] [] S := by
  induction n with
  | zero => intro x1 x2 x3 x4 x5 S h; rw [r_holderOf_14] at h; cases h
  | succ n ih =>
    intro x1 x2 x3 x4 x5 S h
    rw [r_holderOf_14] at h
    refine Go.iload 5 dX12_holderOf_14 rfl ?_
    refine Go.aload_n 0 dX12_holderOf_16 rfl ?_
    refine Go.iload 4 dX12_holderOf_17 rfl ?_
    refine GM.callvr (rest := [.int x5]) [.int x4] dX12_holderOf_19 ck_countOf ci_countOf (rt_countOf _) rfl rfl (Nat.le_of_ble_eq_true rfl) (Nat.le_of_ble_eq_true rfl) (Nat.le_of_ble_eq_true rfl) h (fun v1 h => ?_)
    refine Go.icmp_ge 66 dX12_holderOf_22 (by decide) h (fun h => ?_) (fun h => ?_)
    · refine Go.iinc (w := 1) 4 [(0, .ref κ.o), (1, .int x1), (2, .int x2), (3, .int x3), (4, .int (x4 + 1)), (5, .int x5)] dX12_holderOf_66 rfl (by decide) (by decide) rfl ?_
      refine Go.goto 3 dX12_holderOf_69 (by decide) ?_
      refine Go.sub [0, 1, 2, 3, 4] rfl ?_
      exact h3 _ _ _ _ _ h
    · refine Go.aload_n 0 dX12_holderOf_25 rfl ?_
      refine Go.iload 4 dX12_holderOf_26 rfl ?_
      refine GM.callvr (rest := []) [.int x4] dX12_holderOf_28 ck_isLeaf ci_isLeaf (rt_isLeaf _) rfl rfl (Nat.le_of_ble_eq_true rfl) (Nat.le_of_ble_eq_true rfl) (Nat.le_of_ble_eq_true rfl) h (fun v2 h => ?_)
      refine Go.iload_n 3 dX12_holderOf_31 rfl ?_
      refine Go.icmp_ne 60 dX12_holderOf_32 (by decide) h (fun h => ?_) (fun h => ?_)
      · exact rs_holderOf_60 _ h3 _ ih _ _ _ _ _ _ h
      · refine Go.aload_n 0 dX12_holderOf_35 rfl ?_
        refine Go.iload 4 dX12_holderOf_36 rfl ?_
        refine Go.iload 5 dX12_holderOf_38 rfl ?_
        refine Go.iload_n 1 dX12_holderOf_40 rfl ?_
        refine GM.callvr (rest := []) [.int x4, .int x5, .int x1] dX12_holderOf_41 ck_entryOf ci_entryOf (rt_entryOf _ _ _) rfl rfl (Nat.le_of_ble_eq_true rfl) (Nat.le_of_ble_eq_true rfl) (Nat.le_of_ble_eq_true rfl) h (fun v3 h => ?_)
        refine Go.iload_n 2 dX12_holderOf_44 rfl ?_
        refine Go.icmp_eq 51 dX12_holderOf_45 (by decide) h (fun h => ?_) (fun h => ?_)
        · refine Go.aload_n 0 dX12_holderOf_51 rfl ?_
          refine Go.iload 5 dX12_holderOf_52 rfl ?_
          refine GM.puti 14 (by decide) rfl fl_placeOf rfl rfl rfl rfl dX12_holderOf_54 ?_
          refine Go.iload 4 dX12_holderOf_57 rfl ?_
          cases h
          exact Go.iret dX12_holderOf_59 rfl
        · refine Go.goto 60 dX12_holderOf_48 (by decide) ?_
          exact rs_holderOf_60 _ h3 _ ih _ _ _ _ _ _ h
set_option maxRecDepth 20000 in
theorem rs_holderOf_3 {l : Launch} {κ : KMt} {Z : Int32 × MS} (n : Nat) : ∀ (x1 : Int32) (x2 : Int32) (x3 : Int32) (x4 : Int32) (S : MS), r_holderOf_3 n x1 x2 x3 x4 S = some Z → Go l (EM κ) RX12 cX12_holderOf 6 (some .int) 2 45 0 0 (some (.int Z.1)) Z.2 3 [(0, .ref κ.o), (1, .int x1), (2, .int x2), (3, .int x3), (4, .int x4)] [] S := by
  induction n with
  | zero => intro x1 x2 x3 x4 S h; rw [r_holderOf_3] at h; cases h
  | succ n ih =>
    intro x1 x2 x3 x4 S h
    rw [r_holderOf_3] at h
    refine Go.iload 4 dX12_holderOf_3 rfl ?_
    refine Go.sipush 784 dX12_holderOf_5 (by decide) ?_
    refine Go.icmp_ge 72 dX12_holderOf_8 (by decide) h (fun h => ?_) (fun h => ?_)
    · refine Go.iconst (-1) dX12_holderOf_72 (by decide) ?_
      cases h
      exact Go.iret dX12_holderOf_73 rfl
    · refine Go.iconst 0 dX12_holderOf_11 (by decide) ?_
      refine Go.istore [(0, .ref κ.o), (1, .int x1), (2, .int x2), (3, .int x3), (4, .int x4), (5, .int 0)] dX12_holderOf_12 (by decide) rfl ?_
      exact rs_holderOf_14 _ ih _ _ _ _ _ _ _ h
set_option maxRecDepth 20000 in
theorem rs_holderOf {l : Launch} {κ : KMt} {S : MS} {Z : Int32 × MS} (x1 : Int32) (x2 : Int32) (x3 : Int32) (h : r_holderOf S x1 x2 x3 = some Z) : Go l (EM κ) RX12 cX12_holderOf 6 (some .int) 2 45 0 0 (some (.int Z.1)) Z.2 0 [(0, .ref κ.o), (1, .int x1), (2, .int x2), (3, .int x3)] [] S := by
  unfold r_holderOf at h
  refine Go.iconst 0 dX12_holderOf_0 (by decide) ?_
  refine Go.istore [(0, .ref κ.o), (1, .int x1), (2, .int x2), (3, .int x3), (4, .int 0)] dX12_holderOf_1 (by decide) rfl ?_
  exact rs_holderOf_3 _ _ _ _ _ _ h
set_option maxRecDepth 20000 in
theorem rt_holderOf {l : Launch} {κ : KMt} {S : MS} (x1 : Int32) (x2 : Int32) (x3 : Int32) : ∀ Z, r_holderOf S x1 x2 x3 = some Z → MtM l κ yX12_holderOf cX12_holderOf 6 (some .int) 2 45 [.ref κ.o, .int x1, .int x2, .int x3] S (some (.int Z.1)) Z.2 := fun Z h => MtM.of (by decide +kernel) rfl (Nat.le_of_ble_eq_true rfl) ⟨rfl, rfl, rfl, rfl, trivial⟩ (rs_holderOf x1 x2 x3 h)
