/-! copy -/
def r_copy_2  : Nat → Nat → Nat → Int32 → MS → Option (MS)
  | 0, _, _, _, _ => none
  | n + 1, x0, x1, x2, S => if 495854 ≤ x2 then some S else (rdx S x0 x2).bind (fun v1 => (wrx S x1 x2 v1).bind (fun S2 => r_copy_2 n x0 x1 (x2 + 1) S2))
def r_copy (S : MS) (x0 : Nat) (x1 : Nat) : Option (MS) := r_copy_2 FU x0 x1 0 S
set_option maxRecDepth 20000 in
theorem rs_copy_2 {l : Launch} {κ : KMt} {Z : MS} (n : Nat) : ∀ (x0 : Nat) (x1 : Nat) (x2 : Int32) (S : MS), r_copy_2 n x0 x1 x2 S = some Z → Go l (EM κ) RX12 cX12_copy 3 none 0 0 0 0 none Z 2 [(0, .ref (κ.o + 1 + x0)), (1, .ref (κ.o + 1 + x1)), (2, .int x2)] [] S := by
  induction n with
  | zero => intro x0 x1 x2 S h; rw [r_copy_2] at h; cases h
  | succ n ih =>
    intro x0 x1 x2 S h
    rw [r_copy_2] at h
    refine Go.iload_n 2 dX12_copy_2 rfl ?_
    refine Go.ldc (v := 495854) cn_7 dX12_copy_3 ?_
    refine Go.icmp_ge 20 dX12_copy_5 (by decide) h (fun h => ?_) (fun h => ?_)
    · cases h
      exact Go.vret dX12_copy_20 rfl
    · refine Go.aload_n 1 dX12_copy_8 rfl ?_
      refine Go.iload_n 2 dX12_copy_9 rfl ?_
      refine Go.aload_n 0 dX12_copy_10 rfl ?_
      refine Go.iload_n 2 dX12_copy_11 rfl ?_
      refine GM.ialdx dX12_copy_12 h (fun v1 h => ?_)
      refine GM.iastx dX12_copy_13 h (fun S2 h => ?_)
      refine Go.iinc (w := 1) 2 [(0, .ref (κ.o + 1 + x0)), (1, .ref (κ.o + 1 + x1)), (2, .int (x2 + 1))] dX12_copy_14 rfl (by decide) (by decide) rfl ?_
      refine Go.goto 2 dX12_copy_17 (by decide) ?_
      exact ih _ _ _ _ h
set_option maxRecDepth 20000 in
theorem rs_copy {l : Launch} {κ : KMt} {S : MS} {Z : MS} (x0 : Nat) (x1 : Nat) (h : r_copy S x0 x1 = some Z) : Go l (EM κ) RX12 cX12_copy 3 none 0 0 0 0 none Z 0 [(0, .ref (κ.o + 1 + x0)), (1, .ref (κ.o + 1 + x1))] [] S := by
  unfold r_copy at h
  refine Go.iconst 0 dX12_copy_0 (by decide) ?_
  refine Go.istore_n [(0, .ref (κ.o + 1 + x0)), (1, .ref (κ.o + 1 + x1)), (2, .int 0)] dX12_copy_1 (by decide) rfl ?_
  exact rs_copy_2 _ _ _ _ _ h
set_option maxRecDepth 20000 in
theorem rt_copy {l : Launch} {κ : KMt} {S : MS} (x0 : Nat) (x1 : Nat) : ∀ Z, r_copy S x0 x1 = some Z → MtM l κ yX12_copy cX12_copy 3 none 0 0 [.ref (κ.o + 1 + x0), .ref (κ.o + 1 + x1)] S none Z := fun Z h => MtM.of (by decide +kernel) rfl (Nat.le_of_ble_eq_true rfl) ⟨rfl, rfl, trivial⟩ (rs_copy x0 x1 h)
/-! isIn -/
def r_isIn (S : MS) (x0 : Int32) (x1 : Int32) (x2 : Int32) : Option (Int32) := if x0 < x1 then zb 0 else if x2 < x0 then zb 0 else zb 1
set_option maxRecDepth 20000 in
theorem rs_isIn {l : Launch} {κ : KMt} {S : MS} {Z : Int32} (x0 : Int32) (x1 : Int32) (x2 : Int32) (h : r_isIn S x0 x1 x2 = some Z) : Go l (EM κ) RX12 cX12_isIn 3 (some .boolean) 0 0 0 0 (some (.int Z)) S 0 [(0, .int x0), (1, .int x1), (2, .int x2)] [] S := by
  unfold r_isIn at h
  refine Go.iload_n 0 dX12_isIn_0 rfl ?_
  refine Go.iload_n 1 dX12_isIn_1 rfl ?_
  refine Go.icmp_lt 14 dX12_isIn_2 (by decide) h (fun h => ?_) (fun h => ?_)
  · refine Go.iconst 0 dX12_isIn_14 (by decide) ?_
    exact Go.zret dX12_isIn_15 rfl h
  · refine Go.iload_n 0 dX12_isIn_5 rfl ?_
    refine Go.iload_n 2 dX12_isIn_6 rfl ?_
    refine Go.icmp_gt 14 dX12_isIn_7 (by decide) h (fun h => ?_) (fun h => ?_)
    · refine Go.iconst 0 dX12_isIn_14 (by decide) ?_
      exact Go.zret dX12_isIn_15 rfl h
    · refine Go.iconst 1 dX12_isIn_10 (by decide) ?_
      refine Go.goto 15 dX12_isIn_11 (by decide) ?_
      exact Go.zret dX12_isIn_15 rfl h
set_option maxRecDepth 20000 in
theorem rt_isIn {l : Launch} {κ : KMt} {S : MS} (x0 : Int32) (x1 : Int32) (x2 : Int32) : ∀ Z, r_isIn S x0 x1 x2 = some Z → MtM l κ yX12_isIn cX12_isIn 3 (some .boolean) 0 0 [.int x0, .int x1, .int x2] S (some (.int Z)) S := fun Z h => MtM.of (by decide +kernel) rfl (Nat.le_of_ble_eq_true rfl) ⟨rfl, rfl, rfl, trivial⟩ (rs_isIn x0 x1 x2 h)
/-! lesser -/
def r_lesser (S : MS) (x0 : Int32) (x1 : Int32) : Option (Int32) := if x1 ≤ x0 then some x1 else some x0
set_option maxRecDepth 20000 in
theorem rs_lesser {l : Launch} {κ : KMt} {S : MS} {Z : Int32} (x0 : Int32) (x1 : Int32) (h : r_lesser S x0 x1 = some Z) : Go l (EM κ) RX12 cX12_lesser 2 (some .int) 0 0 0 0 (some (.int Z)) S 0 [(0, .int x0), (1, .int x1)] [] S := by
  unfold r_lesser at h
  refine Go.iload_n 0 dX12_lesser_0 rfl ?_
  refine Go.iload_n 1 dX12_lesser_1 rfl ?_
  refine Go.icmp_ge 9 dX12_lesser_2 (by decide) h (fun h => ?_) (fun h => ?_)
  · refine Go.iload_n 1 dX12_lesser_9 rfl ?_
    cases h
    exact Go.iret dX12_lesser_10 rfl
  · refine Go.iload_n 0 dX12_lesser_5 rfl ?_
    refine Go.goto 10 dX12_lesser_6 (by decide) ?_
    cases h
    exact Go.iret dX12_lesser_10 rfl
set_option maxRecDepth 20000 in
theorem rt_lesser {l : Launch} {κ : KMt} {S : MS} (x0 : Int32) (x1 : Int32) : ∀ Z, r_lesser S x0 x1 = some Z → MtM l κ yX12_lesser cX12_lesser 2 (some .int) 0 0 [.int x0, .int x1] S (some (.int Z)) S := fun Z h => MtM.of (by decide +kernel) rfl (Nat.le_of_ble_eq_true rfl) ⟨rfl, rfl, trivial⟩ (rs_lesser x0 x1 h)
/-! size -/
def r_size (S : MS) (x0 : Int32) : Option (Int32) := if 0 ≤ x0 then some x0 else some (-x0)
set_option maxRecDepth 20000 in
theorem rs_size {l : Launch} {κ : KMt} {S : MS} {Z : Int32} (x0 : Int32) (h : r_size S x0 = some Z) : Go l (EM κ) RX12 cX12_size 1 (some .int) 0 0 0 0 (some (.int Z)) S 0 [(0, .int x0)] [] S := by
  unfold r_size at h
  refine Go.iload_n 0 dX12_size_0 rfl ?_
  refine Go.if_ge 9 dX12_size_1 (by decide) h (fun h => ?_) (fun h => ?_)
  · refine Go.iload_n 0 dX12_size_9 rfl ?_
    cases h
    exact Go.iret dX12_size_10 rfl
  · refine Go.iload_n 0 dX12_size_4 rfl ?_
    refine Go.ineg dX12_size_5 ?_
    refine Go.goto 10 dX12_size_6 (by decide) ?_
    cases h
    exact Go.iret dX12_size_10 rfl
set_option maxRecDepth 20000 in
theorem rt_size {l : Launch} {κ : KMt} {S : MS} (x0 : Int32) : ∀ Z, r_size S x0 = some Z → MtM l κ yX12_size cX12_size 1 (some .int) 0 0 [.int x0] S (some (.int Z)) S := fun Z h => MtM.of (by decide +kernel) rfl (Nat.le_of_ble_eq_true rfl) ⟨rfl, trivial⟩ (rs_size x0 h)
/-! lettersOf -/
def r_lettersOf_16 (S : MS)  : Nat → Int32 → Int32 → Option (Int32)
  | 0, _, _ => none
  | n + 1, x1, x2 => if x2 ≤ 0 then some x1 else if (x2 - x2 / 9 * 9) = 0 then some (-1) else r_lettersOf_16 S n (x1 + 1) (x2 / 9)
def r_lettersOf (S : MS) (x0 : Int32) : Option (Int32) := (r_isIn S x0 1 531440).bind (fun v1 => if v1 = 0 then some (-1) else r_lettersOf_16 S FU 0 x0)
set_option maxRecDepth 20000 in
theorem rs_lettersOf_16 {l : Launch} {κ : KMt} {S : MS} {Z : Int32} (n : Nat) : ∀ (x1 : Int32) (x2 : Int32), r_lettersOf_16 S n x1 x2 = some Z → Go l (EM κ) RX12 cX12_lettersOf 3 (some .int) 1 22 0 0 (some (.int Z)) S 16 [(1, .int x1), (2, .int x2)] [] S := by
  induction n with
  | zero => intro x1 x2 h; rw [r_lettersOf_16] at h; cases h
  | succ n ih =>
    intro x1 x2 h
    rw [r_lettersOf_16] at h
    refine Go.iload_n 1 dX12_lettersOf_16 rfl ?_
    refine Go.if_le 40 dX12_lettersOf_17 (by decide) h (fun h => ?_) (fun h => ?_)
    · refine Go.iload_n 0 dX12_lettersOf_40 rfl ?_
      cases h
      exact Go.iret dX12_lettersOf_41 rfl
    · refine Go.iload_n 1 dX12_lettersOf_20 rfl ?_
      refine Go.bipush 9 dX12_lettersOf_21 (by decide) ?_
      refine Go.irem dX12_lettersOf_23 (by decide) ?_
      refine Go.if_ne 29 dX12_lettersOf_24 (by decide) h (fun h => ?_) (fun h => ?_)
      · refine Go.iinc (w := 1) 0 [(1, .int (x1 + 1)), (2, .int x2)] dX12_lettersOf_29 rfl (by decide) (by decide) rfl ?_
        refine Go.iload_n 1 dX12_lettersOf_32 rfl ?_
        refine Go.bipush 9 dX12_lettersOf_33 (by decide) ?_
        refine Go.idiv dX12_lettersOf_35 (by decide) ?_
        refine Go.istore_n [(1, .int (x1 + 1)), (2, .int (x2 / 9))] dX12_lettersOf_36 (by decide) rfl ?_
        refine Go.goto 16 dX12_lettersOf_37 (by decide) ?_
        exact ih _ _ h
      · refine Go.iconst (-1) dX12_lettersOf_27 (by decide) ?_
        cases h
        exact Go.iret dX12_lettersOf_28 rfl
set_option maxRecDepth 20000 in
theorem rs_lettersOf {l : Launch} {κ : KMt} {S : MS} {Z : Int32} (x0 : Int32) (h : r_lettersOf S x0 = some Z) : Go l (EM κ) RX12 cX12_lettersOf 3 (some .int) 1 22 0 0 (some (.int Z)) S 0 [(0, .int x0)] [] S := by
  unfold r_lettersOf at h
  refine Go.iload_n 0 dX12_lettersOf_0 rfl ?_
  refine Go.iconst 1 dX12_lettersOf_1 (by decide) ?_
  refine Go.ldc (v := 531440) cn_113 dX12_lettersOf_2 ?_
  refine GM.callsr (rest := []) [.int x0, .int 1, .int 531440] dX12_lettersOf_4 ck_isIn ci_isIn (rt_isIn _ _ _) rfl rfl (Nat.le_of_ble_eq_true rfl) (Nat.le_of_ble_eq_true rfl) (Nat.le_of_ble_eq_true rfl) h (fun v1 h => ?_)
  refine Go.if_ne 12 dX12_lettersOf_7 (by decide) h (fun h => ?_) (fun h => ?_)
  · refine Go.iconst 0 dX12_lettersOf_12 (by decide) ?_
    refine Go.istore_n [(0, .int x0), (1, .int 0)] dX12_lettersOf_13 (by decide) rfl ?_
    refine Go.iload_n 0 dX12_lettersOf_14 rfl ?_
    refine Go.istore_n [(0, .int x0), (1, .int 0), (2, .int x0)] dX12_lettersOf_15 (by decide) rfl ?_
    refine Go.sub [1, 2] rfl ?_
    exact rs_lettersOf_16 _ _ _ h
  · refine Go.iconst (-1) dX12_lettersOf_10 (by decide) ?_
    cases h
    exact Go.iret dX12_lettersOf_11 rfl
set_option maxRecDepth 20000 in
theorem rt_lettersOf {l : Launch} {κ : KMt} {S : MS} (x0 : Int32) : ∀ Z, r_lettersOf S x0 = some Z → MtM l κ yX12_lettersOf cX12_lettersOf 3 (some .int) 1 22 [.int x0] S (some (.int Z)) S := fun Z h => MtM.of (by decide +kernel) rfl (Nat.le_of_ble_eq_true rfl) ⟨rfl, trivial⟩ (rs_lettersOf x0 h)
/-! letterAt -/
def r_letterAt_19 (S : MS)  : Nat → Int32 → Int32 → Int32 → Option (Int32)
  | 0, _, _, _ => none
  | n + 1, x1, x3, x4 => if x4 ≤ x1 then some (x3 - x3 / 9 * 9) else r_letterAt_19 S n x1 (x3 / 9) (x4 + (-1))
def r_letterAt (S : MS) (x0 : Int32) (x1 : Int32) : Option (Int32) := (r_lettersOf S x0).bind (fun v1 => if x1 < v1 then r_letterAt_19 S FU x1 x0 (v1 - 1) else some 0)
set_option maxRecDepth 20000 in
theorem rs_letterAt_19 {l : Launch} {κ : KMt} {S : MS} {Z : Int32} (n : Nat) : ∀ (x1 : Int32) (x3 : Int32) (x4 : Int32), r_letterAt_19 S n x1 x3 x4 = some Z → Go l (EM κ) RX12 cX12_letterAt 5 (some .int) 2 44 0 0 (some (.int Z)) S 19 [(1, .int x1), (3, .int x3), (4, .int x4)] [] S := by
  induction n with
  | zero => intro x1 x3 x4 h; rw [r_letterAt_19] at h; cases h
  | succ n ih =>
    intro x1 x3 x4 h
    rw [r_letterAt_19] at h
    refine Go.iload 2 dX12_letterAt_19 rfl ?_
    refine Go.iload_n 0 dX12_letterAt_21 rfl ?_
    refine Go.icmp_le 36 dX12_letterAt_22 (by decide) h (fun h => ?_) (fun h => ?_)
    · refine Go.iload_n 1 dX12_letterAt_36 rfl ?_
      refine Go.bipush 9 dX12_letterAt_37 (by decide) ?_
      refine Go.irem dX12_letterAt_39 (by decide) ?_
      cases h
      exact Go.iret dX12_letterAt_40 rfl
    · refine Go.iload_n 1 dX12_letterAt_25 rfl ?_
      refine Go.bipush 9 dX12_letterAt_26 (by decide) ?_
      refine Go.idiv dX12_letterAt_28 (by decide) ?_
      refine Go.istore_n [(1, .int x1), (3, .int (x3 / 9)), (4, .int x4)] dX12_letterAt_29 (by decide) rfl ?_
      refine Go.iinc (w := (-1)) 2 [(1, .int x1), (3, .int (x3 / 9)), (4, .int (x4 + (-1)))] dX12_letterAt_30 rfl (by decide) (by decide) rfl ?_
      refine Go.goto 19 dX12_letterAt_33 (by decide) ?_
      exact ih _ _ _ h
set_option maxRecDepth 20000 in
theorem rs_letterAt {l : Launch} {κ : KMt} {S : MS} {Z : Int32} (x0 : Int32) (x1 : Int32) (h : r_letterAt S x0 x1 = some Z) : Go l (EM κ) RX12 cX12_letterAt 5 (some .int) 2 44 0 0 (some (.int Z)) S 0 [(0, .int x0), (1, .int x1)] [] S := by
  unfold r_letterAt at h
  refine Go.iload_n 0 dX12_letterAt_0 rfl ?_
  refine GM.callsr (rest := []) [.int x0] dX12_letterAt_1 ck_lettersOf ci_lettersOf (rt_lettersOf _) rfl rfl (Nat.le_of_ble_eq_true rfl) (Nat.le_of_ble_eq_true rfl) (Nat.le_of_ble_eq_true rfl) h (fun v1 h => ?_)
  refine Go.istore_n [(0, .int x0), (1, .int x1), (2, .int v1)] dX12_letterAt_4 (by decide) rfl ?_
  refine Go.iload_n 1 dX12_letterAt_5 rfl ?_
  refine Go.iload_n 2 dX12_letterAt_6 rfl ?_
  refine Go.icmp_lt 12 dX12_letterAt_7 (by decide) h (fun h => ?_) (fun h => ?_)
  · refine Go.iload_n 0 dX12_letterAt_12 rfl ?_
    refine Go.istore_n [(0, .int x0), (1, .int x1), (2, .int v1), (3, .int x0)] dX12_letterAt_13 (by decide) rfl ?_
    refine Go.iload_n 2 dX12_letterAt_14 rfl ?_
    refine Go.iconst 1 dX12_letterAt_15 (by decide) ?_
    refine Go.isub dX12_letterAt_16 ?_
    refine Go.istore [(0, .int x0), (1, .int x1), (2, .int v1), (3, .int x0), (4, .int (v1 - 1))] dX12_letterAt_17 (by decide) rfl ?_
    refine Go.sub [1, 3, 4] rfl ?_
    exact rs_letterAt_19 _ _ _ _ h
  · refine Go.iconst 0 dX12_letterAt_10 (by decide) ?_
    cases h
    exact Go.iret dX12_letterAt_11 rfl
set_option maxRecDepth 20000 in
theorem rt_letterAt {l : Launch} {κ : KMt} {S : MS} (x0 : Int32) (x1 : Int32) : ∀ Z, r_letterAt S x0 x1 = some Z → MtM l κ yX12_letterAt cX12_letterAt 5 (some .int) 2 44 [.int x0, .int x1] S (some (.int Z)) S := fun Z h => MtM.of (by decide +kernel) rfl (Nat.le_of_ble_eq_true rfl) ⟨rfl, rfl, trivial⟩ (rs_letterAt x0 x1 h)
/-! editsOf -/
def r_editsOf_126 (k39 : Int32 → Int32 → Int32 → Int32 → Int32 → MS → Option (Int32 × MS)) (k86 : Int32 → Int32 → Int32 → Int32 → Int32 → Int32 → MS → Option (Int32 × MS)) (x1 : Int32) (x2 : Int32) (x3 : Int32) (x4 : Int32) (x5 : Int32) (x6 : Int32) (y0 : Int32) (y1 : Int32) (S : MS) : Option (Int32 × MS) := (rd S 3 x6).bind (fun v1 => (rd S 2 (x6 - 1)).bind (fun v2 => (r_lesser S v1 v2).bind (fun v3 => (r_lesser S (y0 + y1) (v3 + 1)).bind (fun v4 => (wr S 2 x6 v4).bind (fun S5 => k86 x1 x2 x3 x4 x5 (x6 + 1) S5)))))
def r_editsOf_86 (k39 : Int32 → Int32 → Int32 → Int32 → Int32 → MS → Option (Int32 × MS)) : Nat → Int32 → Int32 → Int32 → Int32 → Int32 → Int32 → MS → Option (Int32 × MS)
  | 0, _, _, _, _, _, _, _ => none
  | n + 1, x1, x2, x3, x4, x5, x6, S => if x4 < x6 then k39 x1 x2 x3 x4 (x5 + 1) S else (rd S 3 (x6 - 1)).bind (fun v6 => (r_letterAt S x1 (x5 - 1)).bind (fun v7 => (r_letterAt S x2 (x6 - 1)).bind (fun v8 => if v7 = v8 then r_editsOf_126 k39 (r_editsOf_86 k39 n) x1 x2 x3 x4 x5 x6 v6 0 S else r_editsOf_126 k39 (r_editsOf_86 k39 n) x1 x2 x3 x4 x5 x6 v6 1 S)))
def r_editsOf_48 (k39 : Int32 → Int32 → Int32 → Int32 → Int32 → MS → Option (Int32 × MS)) : Nat → Int32 → Int32 → Int32 → Int32 → Int32 → Int32 → MS → Option (Int32 × MS)
  | 0, _, _, _, _, _, _, _ => none
  | n + 1, x1, x2, x3, x4, x5, x6, S => if x4 < x6 then (wr S 2 0 x5).bind (fun S9 => r_editsOf_86 k39 FU x1 x2 x3 x4 x5 1 S9) else (rd S 2 x6).bind (fun v10 => (wr S 3 x6 v10).bind (fun S11 => r_editsOf_48 k39 n x1 x2 x3 x4 x5 (x6 + 1) S11))
def r_editsOf_39  : Nat → Int32 → Int32 → Int32 → Int32 → Int32 → MS → Option (Int32 × MS)
  | 0, _, _, _, _, _, _ => none
  | n + 1, x1, x2, x3, x4, x5, S => if x3 < x5 then (rd S 2 x4).bind (fun v12 => some (v12, S)) else r_editsOf_48 (r_editsOf_39 n) FU x1 x2 x3 x4 x5 0 S
def r_editsOf_14  : Nat → Int32 → Int32 → Int32 → Int32 → Int32 → MS → Option (Int32 × MS)
  | 0, _, _, _, _, _, _ => none
  | n + 1, x1, x2, x3, x4, x5, S => if x4 < x5 then r_editsOf_39 FU x1 x2 x3 x4 1 S else (wr S 2 x5 x5).bind (fun S13 => r_editsOf_14 n x1 x2 x3 x4 (x5 + 1) S13)
def r_editsOf (S : MS) (x1 : Int32) (x2 : Int32) : Option (Int32 × MS) := (r_lettersOf S x1).bind (fun v14 => (r_lettersOf S x2).bind (fun v15 => r_editsOf_14 FU x1 x2 v14 v15 0 S))
set_option maxRecDepth 20000 in
theorem rs_editsOf_126 {l : Launch} {κ : KMt} {Z : Int32 × MS} (k39 : Int32 → Int32 → Int32 → Int32 → Int32 → MS → Option (Int32 × MS)) (h39 : ∀ (x1 : Int32) (x2 : Int32) (x3 : Int32) (x4 : Int32) (x5 : Int32) (S : MS), k39 x1 x2 x3 x4 x5 S = some Z → Go l (EM κ) RX12 cX12_editsOf 8 (some .int) 3 68 0 0 (some (.int Z.1)) Z.2 39 [(0, .ref κ.o), (1, .int x1), (2, .int x2), (3, .int x3), (4, .int x4), (5, .int x5)] [] S) (k86 : Int32 → Int32 → Int32 → Int32 → Int32 → Int32 → MS → Option (Int32 × MS)) (h86 : ∀ (x1 : Int32) (x2 : Int32) (x3 : Int32) (x4 : Int32) (x5 : Int32) (x6 : Int32) (S : MS), k86 x1 x2 x3 x4 x5 x6 S = some Z → Go l (EM κ) RX12 cX12_editsOf 8 (some .int) 3 68 0 0 (some (.int Z.1)) Z.2 86 [(0, .ref κ.o), (1, .int x1), (2, .int x2), (3, .int x3), (4, .int x4), (5, .int x5), (6, .int x6)] [] S) (x1 : Int32) (x2 : Int32) (x3 : Int32) (x4 : Int32) (x5 : Int32) (x6 : Int32) (y0 : Int32) (y1 : Int32) (S : MS) (h : r_editsOf_126 k39 k86 x1 x2 x3 x4 x5 x6 y0 y1 S = some Z) : Go l (EM κ) RX12 cX12_editsOf 8 (some .int) 3 68 0 0 (some (.int Z.1)) Z.2 126 [(0, .ref κ.o), (1, .int x1), (2, .int x2), (3, .int x3), (4, .int x4), (5, .int x5), (6, .int x6)] [.int y1, .int y0] S := by
  unfold r_editsOf_126 at h
  refine Go.iadd dX12_editsOf_126 ?_
  refine Go.istore [(0, .ref κ.o), (1, .int x1), (2, .int x2), (3, .int x3), (4, .int x4), (5, .int x5), (6, .int x6), (7, .int (y0 + y1))] dX12_editsOf_127 (by decide) rfl ?_
  refine Go.aload_n 0 dX12_editsOf_129 rfl ?_
  refine GM.geta 2 2 (by decide) rfl fl_now rfl dX12_editsOf_130 ?_
  refine Go.iload 6 dX12_editsOf_133 rfl ?_
  refine Go.iload 7 dX12_editsOf_135 rfl ?_
  refine Go.aload_n 0 dX12_editsOf_137 rfl ?_
  refine GM.geta 3 3 (by decide) rfl fl_ahead rfl dX12_editsOf_138 ?_
  refine Go.iload 6 dX12_editsOf_141 rfl ?_
  refine GM.iald 3 (by decide) rfl dX12_editsOf_143 h (fun v1 h => ?_)
  refine Go.aload_n 0 dX12_editsOf_144 rfl ?_
  refine GM.geta 2 2 (by decide) rfl fl_now rfl dX12_editsOf_145 ?_
  refine Go.iload 6 dX12_editsOf_148 rfl ?_
  refine Go.iconst 1 dX12_editsOf_150 (by decide) ?_
  refine Go.isub dX12_editsOf_151 ?_
  refine GM.iald 2 (by decide) rfl dX12_editsOf_152 h (fun v2 h => ?_)
  refine GM.callsr (rest := [.int (y0 + y1), .int x6, .ref (κ.o + 1 + 2)]) [.int v1, .int v2] dX12_editsOf_153 ck_lesser ci_lesser (rt_lesser _ _) rfl rfl (Nat.le_of_ble_eq_true rfl) (Nat.le_of_ble_eq_true rfl) (Nat.le_of_ble_eq_true rfl) h (fun v3 h => ?_)
  refine Go.iconst 1 dX12_editsOf_156 (by decide) ?_
  refine Go.iadd dX12_editsOf_157 ?_
  refine GM.callsr (rest := [.int x6, .ref (κ.o + 1 + 2)]) [.int (y0 + y1), .int (v3 + 1)] dX12_editsOf_158 ck_lesser ci_lesser (rt_lesser _ _) rfl rfl (Nat.le_of_ble_eq_true rfl) (Nat.le_of_ble_eq_true rfl) (Nat.le_of_ble_eq_true rfl) h (fun v4 h => ?_)
  refine GM.iast 2 (by decide) rfl dX12_editsOf_161 h (fun S5 h => ?_)
  refine Go.iinc (w := 1) 6 [(0, .ref κ.o), (1, .int x1), (2, .int x2), (3, .int x3), (4, .int x4), (5, .int x5), (6, .int (x6 + 1)), (7, .int (y0 + y1))] dX12_editsOf_162 rfl (by decide) (by decide) rfl ?_
  refine Go.goto 86 dX12_editsOf_165 (by decide) ?_
  refine Go.sub [0, 1, 2, 3, 4, 5, 6] rfl ?_
  exact h86 _ _ _ _ _ _ _ h
set_option maxRecDepth 20000 in
theorem rs_editsOf_86 {l : Launch} {κ : KMt} {Z : Int32 × MS} (k39 : Int32 → Int32 → Int32 → Int32 → Int32 → MS → Option (Int32 × MS)) (h39 : ∀ (x1 : Int32) (x2 : Int32) (x3 : Int32) (x4 : Int32) (x5 : Int32) (S : MS), k39 x1 x2 x3 x4 x5 S = some Z → Go l (EM κ) RX12 cX12_editsOf 8 (some .int) 3 68 0 0 (some (.int Z.1)) Z.2 39 [(0, .ref κ.o), (1, .int x1), (2, .int x2), (3, .int x3), (4, .int x4), (5, .int x5)] [] S) (n : Nat) : ∀ (x1 : Int32) (x2 : Int32) (x3 : Int32) (x4 : Int32) (x5 : Int32) (x6 : Int32) (S : MS), r_editsOf_86 k39 n x1 x2 x3 x4 x5 x6 S = some Z → Go l (EM κ) RX12 cX12_editsOf 8 (some .int) 3 68 0 0 (some (.int Z.1)) Z.2 86 [(0, .ref κ.o), (1, .int x1), (2, .int x2), (3, .int x3), (4, .int x4), (5, .int x5), (6, .int x6)] [] S := by
  induction n with
  | zero => intro x1 x2 x3 x4 x5 x6 S h; rw [r_editsOf_86] at h; cases h
  | succ n ih =>
    intro x1 x2 x3 x4 x5 x6 S h
    rw [r_editsOf_86] at h
    refine Go.iload 6 dX12_editsOf_86 rfl ?_
    refine Go.iload 4 dX12_editsOf_88 rfl ?_
    refine Go.icmp_gt 168 dX12_editsOf_90 (by decide) h (fun h => ?_) (fun h => ?_)
    · refine Go.iinc (w := 1) 5 [(0, .ref κ.o), (1, .int x1), (2, .int x2), (3, .int x3), (4, .int x4), (5, .int (x5 + 1)), (6, .int x6)] dX12_editsOf_168 rfl (by decide) (by decide) rfl ?_
      refine Go.goto 39 dX12_editsOf_171 (by decide) ?_
      refine Go.sub [0, 1, 2, 3, 4, 5] rfl ?_
      exact h39 _ _ _ _ _ _ h
    · refine Go.aload_n 0 dX12_editsOf_93 rfl ?_
      refine GM.geta 3 3 (by decide) rfl fl_ahead rfl dX12_editsOf_94 ?_
      refine Go.iload 6 dX12_editsOf_97 rfl ?_
      refine Go.iconst 1 dX12_editsOf_99 (by decide) ?_
      refine Go.isub dX12_editsOf_100 ?_
      refine GM.iald 3 (by decide) rfl dX12_editsOf_101 h (fun v6 h => ?_)
      refine Go.iload_n 1 dX12_editsOf_102 rfl ?_
      refine Go.iload 5 dX12_editsOf_103 rfl ?_
      refine Go.iconst 1 dX12_editsOf_105 (by decide) ?_
      refine Go.isub dX12_editsOf_106 ?_
      refine GM.callsr (rest := [.int v6]) [.int x1, .int (x5 - 1)] dX12_editsOf_107 ck_letterAt ci_letterAt (rt_letterAt _ _) rfl rfl (Nat.le_of_ble_eq_true rfl) (Nat.le_of_ble_eq_true rfl) (Nat.le_of_ble_eq_true rfl) h (fun v7 h => ?_)
      refine Go.iload_n 2 dX12_editsOf_110 rfl ?_
      refine Go.iload 6 dX12_editsOf_111 rfl ?_
      refine Go.iconst 1 dX12_editsOf_113 (by decide) ?_
      refine Go.isub dX12_editsOf_114 ?_
      refine GM.callsr (rest := [.int v7, .int v6]) [.int x2, .int (x6 - 1)] dX12_editsOf_115 ck_letterAt ci_letterAt (rt_letterAt _ _) rfl rfl (Nat.le_of_ble_eq_true rfl) (Nat.le_of_ble_eq_true rfl) (Nat.le_of_ble_eq_true rfl) h (fun v8 h => ?_)
      refine Go.icmp_ne 125 dX12_editsOf_118 (by decide) h (fun h => ?_) (fun h => ?_)
      · refine Go.iconst 1 dX12_editsOf_125 (by decide) ?_
        exact rs_editsOf_126 _ h39 _ ih _ _ _ _ _ _ _ _ _ h
      · refine Go.iconst 0 dX12_editsOf_121 (by decide) ?_
        refine Go.goto 126 dX12_editsOf_122 (by decide) ?_
        exact rs_editsOf_126 _ h39 _ ih _ _ _ _ _ _ _ _ _ h
set_option maxRecDepth 20000 in
theorem rs_editsOf_48 {l : Launch} {κ : KMt} {Z : Int32 × MS} (k39 : Int32 → Int32 → Int32 → Int32 → Int32 → MS → Option (Int32 × MS)) (h39 : ∀ (x1 : Int32) (x2 : Int32) (x3 : Int32) (x4 : Int32) (x5 : Int32) (S : MS), k39 x1 x2 x3 x4 x5 S = some Z → Go l (EM κ) RX12 cX12_editsOf 8 (some .int) 3 68 0 0 (some (.int Z.1)) Z.2 39 [(0, .ref κ.o), (1, .int x1), (2, .int x2), (3, .int x3), (4, .int x4), (5, .int x5)] [] S) (n : Nat) : ∀ (x1 : Int32) (x2 : Int32) (x3 : Int32) (x4 : Int32) (x5 : Int32) (x6 : Int32) (S : MS), r_editsOf_48 k39 n x1 x2 x3 x4 x5 x6 S = some Z → Go l (EM κ) RX12 cX12_editsOf 8 (some .int) 3 68 0 0 (some (.int Z.1)) Z.2 48 [(0, .ref κ.o), (1, .int x1), (2, .int x2), (3, .int x3), (4, .int x4), (5, .int x5), (6, .int x6)] [] S := by
  induction n with
  | zero => intro x1 x2 x3 x4 x5 x6 S h; rw [r_editsOf_48] at h; cases h
  | succ n ih =>
    intro x1 x2 x3 x4 x5 x6 S h
    rw [r_editsOf_48] at h
    refine Go.iload 6 dX12_editsOf_48 rfl ?_
    refine Go.iload 4 dX12_editsOf_50 rfl ?_
    refine Go.icmp_gt 75 dX12_editsOf_52 (by decide) h (fun h => ?_) (fun h => ?_)
    · refine Go.aload_n 0 dX12_editsOf_75 rfl ?_
      refine GM.geta 2 2 (by decide) rfl fl_now rfl dX12_editsOf_76 ?_
      refine Go.iconst 0 dX12_editsOf_79 (by decide) ?_
      refine Go.iload 5 dX12_editsOf_80 rfl ?_
      refine GM.iast 2 (by decide) rfl dX12_editsOf_82 h (fun S9 h => ?_)
      refine Go.iconst 1 dX12_editsOf_83 (by decide) ?_
      refine Go.istore [(0, .ref κ.o), (1, .int x1), (2, .int x2), (3, .int x3), (4, .int x4), (5, .int x5), (6, .int 1)] dX12_editsOf_84 (by decide) rfl ?_
      exact rs_editsOf_86 _ h39 _ _ _ _ _ _ _ _ h
    · refine Go.aload_n 0 dX12_editsOf_55 rfl ?_
      refine GM.geta 3 3 (by decide) rfl fl_ahead rfl dX12_editsOf_56 ?_
      refine Go.iload 6 dX12_editsOf_59 rfl ?_
      refine Go.aload_n 0 dX12_editsOf_61 rfl ?_
      refine GM.geta 2 2 (by decide) rfl fl_now rfl dX12_editsOf_62 ?_
      refine Go.iload 6 dX12_editsOf_65 rfl ?_
      refine GM.iald 2 (by decide) rfl dX12_editsOf_67 h (fun v10 h => ?_)
      refine GM.iast 3 (by decide) rfl dX12_editsOf_68 h (fun S11 h => ?_)
      refine Go.iinc (w := 1) 6 [(0, .ref κ.o), (1, .int x1), (2, .int x2), (3, .int x3), (4, .int x4), (5, .int x5), (6, .int (x6 + 1))] dX12_editsOf_69 rfl (by decide) (by decide) rfl ?_
      refine Go.goto 48 dX12_editsOf_72 (by decide) ?_
      exact ih _ _ _ _ _ _ _ h
set_option maxRecDepth 20000 in
theorem rs_editsOf_39 {l : Launch} {κ : KMt} {Z : Int32 × MS} (n : Nat) : ∀ (x1 : Int32) (x2 : Int32) (x3 : Int32) (x4 : Int32) (x5 : Int32) (S : MS), r_editsOf_39 n x1 x2 x3 x4 x5 S = some Z → Go l (EM κ) RX12 cX12_editsOf 8 (some .int) 3 68 0 0 (some (.int Z.1)) Z.2 39 [(0, .ref κ.o), (1, .int x1), (2, .int x2), (3, .int x3), (4, .int x4), (5, .int x5)] [] S := by
  induction n with
  | zero => intro x1 x2 x3 x4 x5 S h; rw [r_editsOf_39] at h; cases h
  | succ n ih =>
    intro x1 x2 x3 x4 x5 S h
    rw [r_editsOf_39] at h
    refine Go.iload 5 dX12_editsOf_39 rfl ?_
    refine Go.iload_n 3 dX12_editsOf_41 rfl ?_
    refine Go.icmp_gt 174 dX12_editsOf_42 (by decide) h (fun h => ?_) (fun h => ?_)
    · refine Go.aload_n 0 dX12_editsOf_174 rfl ?_
      refine GM.geta 2 2 (by decide) rfl fl_now rfl dX12_editsOf_175 ?_
      refine Go.iload 4 dX12_editsOf_178 rfl ?_
      refine GM.iald 2 (by decide) rfl dX12_editsOf_180 h (fun v12 h => ?_)
      cases h
      exact Go.iret dX12_editsOf_181 rfl
    · refine Go.iconst 0 dX12_editsOf_45 (by decide) ?_
      refine Go.istore [(0, .ref κ.o), (1, .int x1), (2, .int x2), (3, .int x3), (4, .int x4), (5, .int x5), (6, .int 0)] dX12_editsOf_46 (by decide) rfl ?_
      exact rs_editsOf_48 _ ih _ _ _ _ _ _ _ _ h
set_option maxRecDepth 20000 in
theorem rs_editsOf_14 {l : Launch} {κ : KMt} {Z : Int32 × MS} (n : Nat) : ∀ (x1 : Int32) (x2 : Int32) (x3 : Int32) (x4 : Int32) (x5 : Int32) (S : MS), r_editsOf_14 n x1 x2 x3 x4 x5 S = some Z → Go l (EM κ) RX12 cX12_editsOf 8 (some .int) 3 68 0 0 (some (.int Z.1)) Z.2 14 [(0, .ref κ.o), (1, .int x1), (2, .int x2), (3, .int x3), (4, .int x4), (5, .int x5)] [] S := by
  induction n with
  | zero => intro x1 x2 x3 x4 x5 S h; rw [r_editsOf_14] at h; cases h
  | succ n ih =>
    intro x1 x2 x3 x4 x5 S h
    rw [r_editsOf_14] at h
    refine Go.iload 5 dX12_editsOf_14 rfl ?_
    refine Go.iload 4 dX12_editsOf_16 rfl ?_
    refine Go.icmp_gt 36 dX12_editsOf_18 (by decide) h (fun h => ?_) (fun h => ?_)
    · refine Go.iconst 1 dX12_editsOf_36 (by decide) ?_
      refine Go.istore [(0, .ref κ.o), (1, .int x1), (2, .int x2), (3, .int x3), (4, .int x4), (5, .int 1)] dX12_editsOf_37 (by decide) rfl ?_
      exact rs_editsOf_39 _ _ _ _ _ _ _ h
    · refine Go.aload_n 0 dX12_editsOf_21 rfl ?_
      refine GM.geta 2 2 (by decide) rfl fl_now rfl dX12_editsOf_22 ?_
      refine Go.iload 5 dX12_editsOf_25 rfl ?_
      refine Go.iload 5 dX12_editsOf_27 rfl ?_
      refine GM.iast 2 (by decide) rfl dX12_editsOf_29 h (fun S13 h => ?_)
      refine Go.iinc (w := 1) 5 [(0, .ref κ.o), (1, .int x1), (2, .int x2), (3, .int x3), (4, .int x4), (5, .int (x5 + 1))] dX12_editsOf_30 rfl (by decide) (by decide) rfl ?_
      refine Go.goto 14 dX12_editsOf_33 (by decide) ?_
      exact ih _ _ _ _ _ _ h
set_option maxRecDepth 20000 in
theorem rs_editsOf {l : Launch} {κ : KMt} {S : MS} {Z : Int32 × MS} (x1 : Int32) (x2 : Int32) (h : r_editsOf S x1 x2 = some Z) : Go l (EM κ) RX12 cX12_editsOf 8 (some .int) 3 68 0 0 (some (.int Z.1)) Z.2 0 [(0, .ref κ.o), (1, .int x1), (2, .int x2)] [] S := by
  unfold r_editsOf at h
  refine Go.iload_n 1 dX12_editsOf_0 rfl ?_
  refine GM.callsr (rest := []) [.int x1] dX12_editsOf_1 ck_lettersOf ci_lettersOf (rt_lettersOf _) rfl rfl (Nat.le_of_ble_eq_true rfl) (Nat.le_of_ble_eq_true rfl) (Nat.le_of_ble_eq_true rfl) h (fun v14 h => ?_)
  refine Go.istore_n [(0, .ref κ.o), (1, .int x1), (2, .int x2), (3, .int v14)] dX12_editsOf_4 (by decide) rfl ?_
  refine Go.iload_n 2 dX12_editsOf_5 rfl ?_
  refine GM.callsr (rest := []) [.int x2] dX12_editsOf_6 ck_lettersOf ci_lettersOf (rt_lettersOf _) rfl rfl (Nat.le_of_ble_eq_true rfl) (Nat.le_of_ble_eq_true rfl) (Nat.le_of_ble_eq_true rfl) h (fun v15 h => ?_)
  refine Go.istore [(0, .ref κ.o), (1, .int x1), (2, .int x2), (3, .int v14), (4, .int v15)] dX12_editsOf_9 (by decide) rfl ?_
  refine Go.iconst 0 dX12_editsOf_11 (by decide) ?_
  refine Go.istore [(0, .ref κ.o), (1, .int x1), (2, .int x2), (3, .int v14), (4, .int v15), (5, .int 0)] dX12_editsOf_12 (by decide) rfl ?_
  exact rs_editsOf_14 _ _ _ _ _ _ _ h
set_option maxRecDepth 20000 in
theorem rt_editsOf {l : Launch} {κ : KMt} {S : MS} (x1 : Int32) (x2 : Int32) : ∀ Z, r_editsOf S x1 x2 = some Z → MtM l κ yX12_editsOf cX12_editsOf 8 (some .int) 3 68 [.ref κ.o, .int x1, .int x2] S (some (.int Z.1)) Z.2 := fun Z h => MtM.of (by decide +kernel) rfl (Nat.le_of_ble_eq_true rfl) ⟨rfl, rfl, rfl, trivial⟩ (rs_editsOf x1 x2 h)
/-! headOf -/
def r_headOf_36 (S : MS)  (x3 : Int32) : Option (Int32) := some (7 - x3)
def r_headOf_9 (S : MS)  : Nat → Int32 → Int32 → Int32 → Option (Int32)
  | 0, _, _, _ => none
  | n + 1, x1, x2, x3 => (r_letterAt S x1 x3).bind (fun v1 => if v1 = 0 then r_headOf_36 S x3 else (r_letterAt S x1 x3).bind (fun v2 => (r_letterAt S x2 x3).bind (fun v3 => if v2 = v3 then r_headOf_9 S n x1 x2 (x3 + 1) else r_headOf_36 S x3)))
def r_headOf (S : MS) (x1 : Int32) (x2 : Int32) : Option (Int32) := if x1 = x2 then some 0 else r_headOf_9 S FU x1 x2 0
set_option maxRecDepth 20000 in
theorem rs_headOf_36 {l : Launch} {κ : KMt} {S : MS} {Z : Int32} (x3 : Int32) (h : r_headOf_36 S x3 = some Z) : Go l (EM κ) RX12 cX12_headOf 4 (some .int) 3 68 0 0 (some (.int Z)) S 36 [(3, .int x3)] [] S := by
  unfold r_headOf_36 at h
  refine Go.bipush 7 dX12_headOf_36 (by decide) ?_
  refine Go.iload_n 0 dX12_headOf_38 rfl ?_
  refine Go.isub dX12_headOf_39 ?_
  cases h
  exact Go.iret dX12_headOf_40 rfl
set_option maxRecDepth 20000 in
theorem rs_headOf_9 {l : Launch} {κ : KMt} {S : MS} {Z : Int32} (n : Nat) : ∀ (x1 : Int32) (x2 : Int32) (x3 : Int32), r_headOf_9 S n x1 x2 x3 = some Z → Go l (EM κ) RX12 cX12_headOf 4 (some .int) 3 68 0 0 (some (.int Z)) S 9 [(1, .int x1), (2, .int x2), (3, .int x3)] [] S := by
  induction n with
  | zero => intro x1 x2 x3 h; rw [r_headOf_9] at h; cases h
  | succ n ih =>
    intro x1 x2 x3 h
    rw [r_headOf_9] at h
    refine Go.iload_n 0 dX12_headOf_9 rfl ?_
    refine Go.iload_n 2 dX12_headOf_10 rfl ?_
    refine GM.callsr (rest := []) [.int x1, .int x3] dX12_headOf_11 ck_letterAt ci_letterAt (rt_letterAt _ _) rfl rfl (Nat.le_of_ble_eq_true rfl) (Nat.le_of_ble_eq_true rfl) (Nat.le_of_ble_eq_true rfl) h (fun v1 h => ?_)
    refine Go.if_eq 36 dX12_headOf_14 (by decide) h (fun h => ?_) (fun h => ?_)
    · refine Go.sub [2] rfl ?_
      exact rs_headOf_36 _ h
    · refine Go.iload_n 0 dX12_headOf_17 rfl ?_
      refine Go.iload_n 2 dX12_headOf_18 rfl ?_
      refine GM.callsr (rest := []) [.int x1, .int x3] dX12_headOf_19 ck_letterAt ci_letterAt (rt_letterAt _ _) rfl rfl (Nat.le_of_ble_eq_true rfl) (Nat.le_of_ble_eq_true rfl) (Nat.le_of_ble_eq_true rfl) h (fun v2 h => ?_)
      refine Go.iload_n 1 dX12_headOf_22 rfl ?_
      refine Go.iload_n 2 dX12_headOf_23 rfl ?_
      refine GM.callsr (rest := [.int v2]) [.int x2, .int x3] dX12_headOf_24 ck_letterAt ci_letterAt (rt_letterAt _ _) rfl rfl (Nat.le_of_ble_eq_true rfl) (Nat.le_of_ble_eq_true rfl) (Nat.le_of_ble_eq_true rfl) h (fun v3 h => ?_)
      refine Go.icmp_ne 36 dX12_headOf_27 (by decide) h (fun h => ?_) (fun h => ?_)
      · refine Go.sub [2] rfl ?_
        exact rs_headOf_36 _ h
      · refine Go.iinc (w := 1) 2 [(1, .int x1), (2, .int x2), (3, .int (x3 + 1))] dX12_headOf_30 rfl (by decide) (by decide) rfl ?_
        refine Go.goto 9 dX12_headOf_33 (by decide) ?_
        exact ih _ _ _ h
set_option maxRecDepth 20000 in
theorem rs_headOf {l : Launch} {κ : KMt} {S : MS} {Z : Int32} (x1 : Int32) (x2 : Int32) (h : r_headOf S x1 x2 = some Z) : Go l (EM κ) RX12 cX12_headOf 4 (some .int) 3 68 0 0 (some (.int Z)) S 0 [(0, .ref κ.o), (1, .int x1), (2, .int x2)] [] S := by
  unfold r_headOf at h
  refine Go.iload_n 1 dX12_headOf_0 rfl ?_
  refine Go.iload_n 2 dX12_headOf_1 rfl ?_
  refine Go.icmp_ne 7 dX12_headOf_2 (by decide) h (fun h => ?_) (fun h => ?_)
  · refine Go.iconst 0 dX12_headOf_7 (by decide) ?_
    refine Go.istore_n [(0, .ref κ.o), (1, .int x1), (2, .int x2), (3, .int 0)] dX12_headOf_8 (by decide) rfl ?_
    refine Go.sub [1, 2, 3] rfl ?_
    exact rs_headOf_9 _ _ _ _ h
  · refine Go.iconst 0 dX12_headOf_5 (by decide) ?_
    cases h
    exact Go.iret dX12_headOf_6 rfl
set_option maxRecDepth 20000 in
theorem rt_headOf {l : Launch} {κ : KMt} {S : MS} (x1 : Int32) (x2 : Int32) : ∀ Z, r_headOf S x1 x2 = some Z → MtM l κ yX12_headOf cX12_headOf 4 (some .int) 3 68 [.ref κ.o, .int x1, .int x2] S (some (.int Z)) S := fun Z h => MtM.of (by decide +kernel) rfl (Nat.le_of_ble_eq_true rfl) ⟨rfl, rfl, rfl, trivial⟩ (rs_headOf x1 x2 h)
/-! apartOf -/
def r_apartOf_99 (k48 : Int32 → Int32 → Int32 → Int32 → MS → Option (Int32 × MS)) (x1 : Int32) (x2 : Int32) (x4 : Int32) (y0 : Int32) (y1 : Int32) (S : MS) : Option (Int32 × MS) := k48 x1 x2 (y0 + y1) (x4 + 1) S
def r_apartOf_48  : Nat → Int32 → Int32 → Int32 → Int32 → MS → Option (Int32 × MS)
  | 0, _, _, _, _, _ => none
  | n + 1, x1, x2, x3, x4, S => if 6 ≤ x4 then some (x3, S) else (r_letterAt S x1 x4).bind (fun v1 => (r_letterAt S x2 x4).bind (fun v2 => (r_size S (v1 - v2)).bind (fun v3 => (rd S 0 3).bind (fun v4 => if v4 = 2 then r_apartOf_99 (r_apartOf_48 n) x1 x2 x4 x3 v3 S else if v3 = 0 then r_apartOf_99 (r_apartOf_48 n) x1 x2 x4 x3 0 S else r_apartOf_99 (r_apartOf_48 n) x1 x2 x4 x3 1 S))))
def r_apartOf_43  (x1 : Int32) (x2 : Int32) (S : MS) : Option (Int32 × MS) := r_apartOf_48 FU x1 x2 0 0 S
def r_apartOf (S : MS) (x1 : Int32) (x2 : Int32) : Option (Int32 × MS) := (rd S 0 3).bind (fun v5 => if v5 = 0 then bd2 (r_editsOf S x1 x2) (fun v9 S10 => some (v9, S10)) else (rd S 0 3).bind (fun v6 => if v6 = 1 then r_apartOf_43 x1 x2 S else (rd S 0 3).bind (fun v7 => if v7 = 2 then r_apartOf_43 x1 x2 S else (r_headOf S x1 x2).bind (fun v8 => some (v8, S)))))
set_option maxRecDepth 20000 in
theorem rs_apartOf_99 {l : Launch} {κ : KMt} {Z : Int32 × MS} (k48 : Int32 → Int32 → Int32 → Int32 → MS → Option (Int32 × MS)) (h48 : ∀ (x1 : Int32) (x2 : Int32) (x3 : Int32) (x4 : Int32) (S : MS), k48 x1 x2 x3 x4 S = some Z → Go l (EM κ) RX12 cX12_apartOf 6 (some .int) 4 95 0 0 (some (.int Z.1)) Z.2 48 [(0, .ref κ.o), (1, .int x1), (2, .int x2), (3, .int x3), (4, .int x4)] [] S) (x1 : Int32) (x2 : Int32) (x4 : Int32) (y0 : Int32) (y1 : Int32) (S : MS) (h : r_apartOf_99 k48 x1 x2 x4 y0 y1 S = some Z) : Go l (EM κ) RX12 cX12_apartOf 6 (some .int) 4 95 0 0 (some (.int Z.1)) Z.2 99 [(0, .ref κ.o), (1, .int x1), (2, .int x2), (4, .int x4)] [.int y1, .int y0] S := by
  unfold r_apartOf_99 at h
  refine Go.iadd dX12_apartOf_99 ?_
  refine Go.istore_n [(0, .ref κ.o), (1, .int x1), (2, .int x2), (3, .int (y0 + y1)), (4, .int x4)] dX12_apartOf_100 (by decide) rfl ?_
  refine Go.iinc (w := 1) 4 [(0, .ref κ.o), (1, .int x1), (2, .int x2), (3, .int (y0 + y1)), (4, .int (x4 + 1))] dX12_apartOf_101 rfl (by decide) (by decide) rfl ?_
  refine Go.goto 48 dX12_apartOf_104 (by decide) ?_
  exact h48 _ _ _ _ _ h
set_option maxRecDepth 20000 in
theorem rs_apartOf_48 {l : Launch} {κ : KMt} {Z : Int32 × MS} (n : Nat) : ∀ (x1 : Int32) (x2 : Int32) (x3 : Int32) (x4 : Int32) (S : MS), r_apartOf_48 n x1 x2 x3 x4 S = some Z → Go l (EM κ) RX12 cX12_apartOf 6 (some .int) 4 95 0 0 (some (.int Z.1)) Z.2 48 [(0, .ref κ.o), (1, .int x1), (2, .int x2), (3, .int x3), (4, .int x4)] [] S := by
  induction n with
  | zero => intro x1 x2 x3 x4 S h; rw [r_apartOf_48] at h; cases h
  | succ n ih =>
    intro x1 x2 x3 x4 S h
    rw [r_apartOf_48] at h
    refine Go.iload 4 dX12_apartOf_48 rfl ?_
    refine Go.bipush 6 dX12_apartOf_50 (by decide) ?_
    refine Go.icmp_ge 107 dX12_apartOf_52 (by decide) h (fun h => ?_) (fun h => ?_)
    · refine Go.iload_n 3 dX12_apartOf_107 rfl ?_
      cases h
      exact Go.iret dX12_apartOf_108 rfl
    · refine Go.iload_n 1 dX12_apartOf_55 rfl ?_
      refine Go.iload 4 dX12_apartOf_56 rfl ?_
      refine GM.callsr (rest := []) [.int x1, .int x4] dX12_apartOf_58 ck_letterAt ci_letterAt (rt_letterAt _ _) rfl rfl (Nat.le_of_ble_eq_true rfl) (Nat.le_of_ble_eq_true rfl) (Nat.le_of_ble_eq_true rfl) h (fun v1 h => ?_)
      refine Go.iload_n 2 dX12_apartOf_61 rfl ?_
      refine Go.iload 4 dX12_apartOf_62 rfl ?_
      refine GM.callsr (rest := [.int v1]) [.int x2, .int x4] dX12_apartOf_64 ck_letterAt ci_letterAt (rt_letterAt _ _) rfl rfl (Nat.le_of_ble_eq_true rfl) (Nat.le_of_ble_eq_true rfl) (Nat.le_of_ble_eq_true rfl) h (fun v2 h => ?_)
      refine Go.isub dX12_apartOf_67 ?_
      refine GM.callsr (rest := []) [.int (v1 - v2)] dX12_apartOf_68 ck_size ci_size (rt_size _) rfl rfl (Nat.le_of_ble_eq_true rfl) (Nat.le_of_ble_eq_true rfl) (Nat.le_of_ble_eq_true rfl) h (fun v3 h => ?_)
      refine Go.istore [(0, .ref κ.o), (1, .int x1), (2, .int x2), (3, .int x3), (4, .int x4), (5, .int v3)] dX12_apartOf_71 (by decide) rfl ?_
      refine Go.iload_n 3 dX12_apartOf_73 rfl ?_
      refine Go.aload_n 0 dX12_apartOf_74 rfl ?_
      refine GM.geta 0 0 (by decide) rfl fl_a rfl dX12_apartOf_75 ?_
      refine Go.iconst 3 dX12_apartOf_78 (by decide) ?_
      refine GM.iald 0 (by decide) rfl dX12_apartOf_79 h (fun v4 h => ?_)
      refine Go.iconst 2 dX12_apartOf_80 (by decide) ?_
      refine Go.icmp_ne 89 dX12_apartOf_81 (by decide) h (fun h => ?_) (fun h => ?_)
      · refine Go.iload 5 dX12_apartOf_89 rfl ?_
        refine Go.if_ne 98 dX12_apartOf_91 (by decide) h (fun h => ?_) (fun h => ?_)
        · refine Go.iconst 1 dX12_apartOf_98 (by decide) ?_
          refine Go.sub [0, 1, 2, 4] rfl ?_
          exact rs_apartOf_99 _ ih _ _ _ _ _ _ h
        · refine Go.iconst 0 dX12_apartOf_94 (by decide) ?_
          refine Go.goto 99 dX12_apartOf_95 (by decide) ?_
          refine Go.sub [0, 1, 2, 4] rfl ?_
          exact rs_apartOf_99 _ ih _ _ _ _ _ _ h
      · refine Go.iload 5 dX12_apartOf_84 rfl ?_
        refine Go.goto 99 dX12_apartOf_86 (by decide) ?_
        refine Go.sub [0, 1, 2, 4] rfl ?_
        exact rs_apartOf_99 _ ih _ _ _ _ _ _ h
set_option maxRecDepth 20000 in
theorem rs_apartOf_43 {l : Launch} {κ : KMt} {Z : Int32 × MS} (x1 : Int32) (x2 : Int32) (S : MS) (h : r_apartOf_43 x1 x2 S = some Z) : Go l (EM κ) RX12 cX12_apartOf 6 (some .int) 4 95 0 0 (some (.int Z.1)) Z.2 43 [(0, .ref κ.o), (1, .int x1), (2, .int x2)] [] S := by
  unfold r_apartOf_43 at h
  refine Go.iconst 0 dX12_apartOf_43 (by decide) ?_
  refine Go.istore_n [(0, .ref κ.o), (1, .int x1), (2, .int x2), (3, .int 0)] dX12_apartOf_44 (by decide) rfl ?_
  refine Go.iconst 0 dX12_apartOf_45 (by decide) ?_
  refine Go.istore [(0, .ref κ.o), (1, .int x1), (2, .int x2), (3, .int 0), (4, .int 0)] dX12_apartOf_46 (by decide) rfl ?_
  exact rs_apartOf_48 _ _ _ _ _ _ h
set_option maxRecDepth 20000 in
theorem rs_apartOf {l : Launch} {κ : KMt} {S : MS} {Z : Int32 × MS} (x1 : Int32) (x2 : Int32) (h : r_apartOf S x1 x2 = some Z) : Go l (EM κ) RX12 cX12_apartOf 6 (some .int) 4 95 0 0 (some (.int Z.1)) Z.2 0 [(0, .ref κ.o), (1, .int x1), (2, .int x2)] [] S := by
  unfold r_apartOf at h
  refine Go.aload_n 0 dX12_apartOf_0 rfl ?_
  refine GM.geta 0 0 (by decide) rfl fl_a rfl dX12_apartOf_1 ?_
  refine Go.iconst 3 dX12_apartOf_4 (by decide) ?_
  refine GM.iald 0 (by decide) rfl dX12_apartOf_5 h (fun v5 h => ?_)
  refine Go.if_ne 16 dX12_apartOf_6 (by decide) h (fun h => ?_) (fun h => ?_)
  · refine Go.aload_n 0 dX12_apartOf_16 rfl ?_
    refine GM.geta 0 0 (by decide) rfl fl_a rfl dX12_apartOf_17 ?_
    refine Go.iconst 3 dX12_apartOf_20 (by decide) ?_
    refine GM.iald 0 (by decide) rfl dX12_apartOf_21 h (fun v6 h => ?_)
    refine Go.iconst 1 dX12_apartOf_22 (by decide) ?_
    refine Go.icmp_eq 43 dX12_apartOf_23 (by decide) h (fun h => ?_) (fun h => ?_)
    · exact rs_apartOf_43 _ _ _ h
    · refine Go.aload_n 0 dX12_apartOf_26 rfl ?_
      refine GM.geta 0 0 (by decide) rfl fl_a rfl dX12_apartOf_27 ?_
      refine Go.iconst 3 dX12_apartOf_30 (by decide) ?_
      refine GM.iald 0 (by decide) rfl dX12_apartOf_31 h (fun v7 h => ?_)
      refine Go.iconst 2 dX12_apartOf_32 (by decide) ?_
      refine Go.icmp_eq 43 dX12_apartOf_33 (by decide) h (fun h => ?_) (fun h => ?_)
      · exact rs_apartOf_43 _ _ _ h
      · refine Go.aload_n 0 dX12_apartOf_36 rfl ?_
        refine Go.iload_n 1 dX12_apartOf_37 rfl ?_
        refine Go.iload_n 2 dX12_apartOf_38 rfl ?_
        refine GM.callvr (rest := []) [.int x1, .int x2] dX12_apartOf_39 ck_headOf ci_headOf (rt_headOf _ _) rfl rfl (Nat.le_of_ble_eq_true rfl) (Nat.le_of_ble_eq_true rfl) (Nat.le_of_ble_eq_true rfl) h (fun v8 h => ?_)
        cases h
        exact Go.iret dX12_apartOf_42 rfl
  · refine Go.aload_n 0 dX12_apartOf_9 rfl ?_
    refine Go.iload_n 1 dX12_apartOf_10 rfl ?_
    refine Go.iload_n 2 dX12_apartOf_11 rfl ?_
    refine GM.callvw (rest := []) [.int x1, .int x2] dX12_apartOf_12 ck_editsOf ci_editsOf (rt_editsOf _ _) rfl rfl (Nat.le_of_ble_eq_true rfl) (Nat.le_of_ble_eq_true rfl) (Nat.le_of_ble_eq_true rfl) h (fun v9 S10 h => ?_)
    cases h
    exact Go.iret dX12_apartOf_15 rfl
set_option maxRecDepth 20000 in
theorem rt_apartOf {l : Launch} {κ : KMt} {S : MS} (x1 : Int32) (x2 : Int32) : ∀ Z, r_apartOf S x1 x2 = some Z → MtM l κ yX12_apartOf cX12_apartOf 6 (some .int) 4 95 [.ref κ.o, .int x1, .int x2] S (some (.int Z.1)) Z.2 := fun Z h => MtM.of (by decide +kernel) rfl (Nat.le_of_ble_eq_true rfl) ⟨rfl, rfl, rfl, trivial⟩ (rs_apartOf x1 x2 h)
/-! wordOf -/
def r_wordOf (S : MS) (x1 : Int32) : Option (Int32) := (rd S 0 (6 + x1)).bind (fun v1 => some v1)
set_option maxRecDepth 20000 in
theorem rs_wordOf {l : Launch} {κ : KMt} {S : MS} {Z : Int32} (x1 : Int32) (h : r_wordOf S x1 = some Z) : Go l (EM κ) RX12 cX12_wordOf 2 (some .int) 0 0 0 0 (some (.int Z)) S 0 [(0, .ref κ.o), (1, .int x1)] [] S := by
  unfold r_wordOf at h
  refine Go.aload_n 0 dX12_wordOf_0 rfl ?_
  refine GM.geta 0 0 (by decide) rfl fl_a rfl dX12_wordOf_1 ?_
  refine Go.bipush 6 dX12_wordOf_4 (by decide) ?_
  refine Go.iload_n 1 dX12_wordOf_6 rfl ?_
  refine Go.iadd dX12_wordOf_7 ?_
  refine GM.iald 0 (by decide) rfl dX12_wordOf_8 h (fun v1 h => ?_)
  cases h
  exact Go.iret dX12_wordOf_9 rfl
set_option maxRecDepth 20000 in
theorem rt_wordOf {l : Launch} {κ : KMt} {S : MS} (x1 : Int32) : ∀ Z, r_wordOf S x1 = some Z → MtM l κ yX12_wordOf cX12_wordOf 2 (some .int) 0 0 [.ref κ.o, .int x1] S (some (.int Z)) S := fun Z h => MtM.of (by decide +kernel) rfl (Nat.le_of_ble_eq_true rfl) ⟨rfl, rfl, trivial⟩ (rs_wordOf x1 h)
/-! isThing -/
def r_isThing (S : MS) (x1 : Int32) : Option (Int32) := (r_isIn S x1 0 39).bind (fun v1 => if v1 = 0 then zb 0 else (r_wordOf S x1).bind (fun v2 => if v2 = 0 then zb 0 else zb 1))
set_option maxRecDepth 20000 in
theorem rs_isThing {l : Launch} {κ : KMt} {S : MS} {Z : Int32} (x1 : Int32) (h : r_isThing S x1 = some Z) : Go l (EM κ) RX12 cX12_isThing 2 (some .boolean) 1 22 0 0 (some (.int Z)) S 0 [(0, .ref κ.o), (1, .int x1)] [] S := by
  unfold r_isThing at h
  refine Go.iload_n 1 dX12_isThing_0 rfl ?_
  refine Go.iconst 0 dX12_isThing_1 (by decide) ?_
  refine Go.bipush 39 dX12_isThing_2 (by decide) ?_
  refine GM.callsr (rest := []) [.int x1, .int 0, .int 39] dX12_isThing_4 ck_isIn ci_isIn (rt_isIn _ _ _) rfl rfl (Nat.le_of_ble_eq_true rfl) (Nat.le_of_ble_eq_true rfl) (Nat.le_of_ble_eq_true rfl) h (fun v1 h => ?_)
  refine Go.if_eq 22 dX12_isThing_7 (by decide) h (fun h => ?_) (fun h => ?_)
  · refine Go.iconst 0 dX12_isThing_22 (by decide) ?_
    exact Go.zret dX12_isThing_23 rfl h
  · refine Go.aload_n 0 dX12_isThing_10 rfl ?_
    refine Go.iload_n 1 dX12_isThing_11 rfl ?_
    refine GM.callvr (rest := []) [.int x1] dX12_isThing_12 ck_wordOf ci_wordOf (rt_wordOf _) rfl rfl (Nat.le_of_ble_eq_true rfl) (Nat.le_of_ble_eq_true rfl) (Nat.le_of_ble_eq_true rfl) h (fun v2 h => ?_)
    refine Go.if_eq 22 dX12_isThing_15 (by decide) h (fun h => ?_) (fun h => ?_)
    · refine Go.iconst 0 dX12_isThing_22 (by decide) ?_
      exact Go.zret dX12_isThing_23 rfl h
    · refine Go.iconst 1 dX12_isThing_18 (by decide) ?_
      refine Go.goto 23 dX12_isThing_19 (by decide) ?_
      exact Go.zret dX12_isThing_23 rfl h
set_option maxRecDepth 20000 in
theorem rt_isThing {l : Launch} {κ : KMt} {S : MS} (x1 : Int32) : ∀ Z, r_isThing S x1 = some Z → MtM l κ yX12_isThing cX12_isThing 2 (some .boolean) 1 22 [.ref κ.o, .int x1] S (some (.int Z)) S := fun Z h => MtM.of (by decide +kernel) rfl (Nat.le_of_ble_eq_true rfl) ⟨rfl, rfl, trivial⟩ (rs_isThing x1 h)
/-! things -/
def r_things_24 (S : MS) (k4 : Int32 → Int32 → Option (Int32)) (x2 : Int32) (y0 : Int32) (y1 : Int32) : Option (Int32) := k4 (y0 + y1) (x2 + 1)
def r_things_4 (S : MS)  : Nat → Int32 → Int32 → Option (Int32)
  | 0, _, _ => none
  | n + 1, x1, x2 => if 40 ≤ x2 then some x1 else (r_isThing S x2).bind (fun v1 => if v1 = 0 then r_things_24 S (r_things_4 S n) x2 x1 0 else r_things_24 S (r_things_4 S n) x2 x1 1)
def r_things (S : MS)  : Option (Int32) := r_things_4 S FU 0 0
set_option maxRecDepth 20000 in
theorem rs_things_24 {l : Launch} {κ : KMt} {S : MS} {Z : Int32} (k4 : Int32 → Int32 → Option (Int32)) (h4 : ∀ (x1 : Int32) (x2 : Int32), k4 x1 x2 = some Z → Go l (EM κ) RX12 cX12_things 3 (some .int) 2 43 0 0 (some (.int Z)) S 4 [(0, .ref κ.o), (1, .int x1), (2, .int x2)] [] S) (x2 : Int32) (y0 : Int32) (y1 : Int32) (h : r_things_24 S k4 x2 y0 y1 = some Z) : Go l (EM κ) RX12 cX12_things 3 (some .int) 2 43 0 0 (some (.int Z)) S 24 [(0, .ref κ.o), (2, .int x2)] [.int y1, .int y0] S := by
  unfold r_things_24 at h
  refine Go.iadd dX12_things_24 ?_
  refine Go.istore_n [(0, .ref κ.o), (1, .int (y0 + y1)), (2, .int x2)] dX12_things_25 (by decide) rfl ?_
  refine Go.iinc (w := 1) 2 [(0, .ref κ.o), (1, .int (y0 + y1)), (2, .int (x2 + 1))] dX12_things_26 rfl (by decide) (by decide) rfl ?_
  refine Go.goto 4 dX12_things_29 (by decide) ?_
  exact h4 _ _ h
set_option maxRecDepth 20000 in
theorem rs_things_4 {l : Launch} {κ : KMt} {S : MS} {Z : Int32} (n : Nat) : ∀ (x1 : Int32) (x2 : Int32), r_things_4 S n x1 x2 = some Z → Go l (EM κ) RX12 cX12_things 3 (some .int) 2 43 0 0 (some (.int Z)) S 4 [(0, .ref κ.o), (1, .int x1), (2, .int x2)] [] S := by
  induction n with
  | zero => intro x1 x2 h; rw [r_things_4] at h; cases h
  | succ n ih =>
    intro x1 x2 h
    rw [r_things_4] at h
    refine Go.iload_n 2 dX12_things_4 rfl ?_
    refine Go.bipush 40 dX12_things_5 (by decide) ?_
    refine Go.icmp_ge 32 dX12_things_7 (by decide) h (fun h => ?_) (fun h => ?_)
    · refine Go.iload_n 1 dX12_things_32 rfl ?_
      cases h
      exact Go.iret dX12_things_33 rfl
    · refine Go.iload_n 1 dX12_things_10 rfl ?_
      refine Go.aload_n 0 dX12_things_11 rfl ?_
      refine Go.iload_n 2 dX12_things_12 rfl ?_
      refine GM.callvr (rest := [.int x1]) [.int x2] dX12_things_13 ck_isThing ci_isThing (rt_isThing _) rfl rfl (Nat.le_of_ble_eq_true rfl) (Nat.le_of_ble_eq_true rfl) (Nat.le_of_ble_eq_true rfl) h (fun v1 h => ?_)
      refine Go.if_eq 23 dX12_things_16 (by decide) h (fun h => ?_) (fun h => ?_)
      · refine Go.iconst 0 dX12_things_23 (by decide) ?_
        refine Go.sub [0, 2] rfl ?_
        exact rs_things_24 _ ih _ _ _ h
      · refine Go.iconst 1 dX12_things_19 (by decide) ?_
        refine Go.goto 24 dX12_things_20 (by decide) ?_
        refine Go.sub [0, 2] rfl ?_
        exact rs_things_24 _ ih _ _ _ h
set_option maxRecDepth 20000 in
theorem rs_things {l : Launch} {κ : KMt} {S : MS} {Z : Int32}  (h : r_things S  = some Z) : Go l (EM κ) RX12 cX12_things 3 (some .int) 2 43 0 0 (some (.int Z)) S 0 [(0, .ref κ.o)] [] S := by
  unfold r_things at h
  refine Go.iconst 0 dX12_things_0 (by decide) ?_
  refine Go.istore_n [(0, .ref κ.o), (1, .int 0)] dX12_things_1 (by decide) rfl ?_
  refine Go.iconst 0 dX12_things_2 (by decide) ?_
  refine Go.istore_n [(0, .ref κ.o), (1, .int 0), (2, .int 0)] dX12_things_3 (by decide) rfl ?_
  exact rs_things_4 _ _ _ h
set_option maxRecDepth 20000 in
theorem rt_things {l : Launch} {κ : KMt} {S : MS}  : ∀ Z, r_things S  = some Z → MtM l κ yX12_things cX12_things 3 (some .int) 2 43 [.ref κ.o] S (some (.int Z)) S := fun Z h => MtM.of (by decide +kernel) rfl (Nat.le_of_ble_eq_true rfl) ⟨rfl, trivial⟩ (rs_things  h)
/-! toldAt -/
def r_toldAt_46 (S : MS) (k2 : Int32 → Int32 → Int32 → Option (Int32)) (x1 : Int32) (x2 : Int32) (x3 : Int32) : Option (Int32) := k2 x1 x2 (x3 + 1)
def r_toldAt_2 (S : MS)  : Nat → Int32 → Int32 → Int32 → Option (Int32)
  | 0, _, _, _ => none
  | n + 1, x1, x2, x3 => (rd S 0 5).bind (fun v1 => if v1 ≤ x3 then some (-1) else (rd S 0 (46 + (3 * x3))).bind (fun v2 => if v2 = x1 then (rd S 0 ((46 + (3 * x3)) + 1)).bind (fun v3 => if v3 = x2 then some x3 else r_toldAt_46 S (r_toldAt_2 S n) x1 x2 x3) else r_toldAt_46 S (r_toldAt_2 S n) x1 x2 x3))
def r_toldAt (S : MS) (x1 : Int32) (x2 : Int32) : Option (Int32) := r_toldAt_2 S FU x1 x2 0
set_option maxRecDepth 20000 in
theorem rs_toldAt_46 {l : Launch} {κ : KMt} {S : MS} {Z : Int32} (k2 : Int32 → Int32 → Int32 → Option (Int32)) (h2 : ∀ (x1 : Int32) (x2 : Int32) (x3 : Int32), k2 x1 x2 x3 = some Z → Go l (EM κ) RX12 cX12_toldAt 4 (some .int) 0 0 0 0 (some (.int Z)) S 2 [(0, .ref κ.o), (1, .int x1), (2, .int x2), (3, .int x3)] [] S) (x1 : Int32) (x2 : Int32) (x3 : Int32) (h : r_toldAt_46 S k2 x1 x2 x3 = some Z) : Go l (EM κ) RX12 cX12_toldAt 4 (some .int) 0 0 0 0 (some (.int Z)) S 46 [(0, .ref κ.o), (1, .int x1), (2, .int x2), (3, .int x3)] [] S := by
  unfold r_toldAt_46 at h
  refine Go.iinc (w := 1) 3 [(0, .ref κ.o), (1, .int x1), (2, .int x2), (3, .int (x3 + 1))] dX12_toldAt_46 rfl (by decide) (by decide) rfl ?_
  refine Go.goto 2 dX12_toldAt_49 (by decide) ?_
  exact h2 _ _ _ h
set_option maxRecDepth 20000 in
theorem rs_toldAt_2 {l : Launch} {κ : KMt} {S : MS} {Z : Int32} (n : Nat) : ∀ (x1 : Int32) (x2 : Int32) (x3 : Int32), r_toldAt_2 S n x1 x2 x3 = some Z → Go l (EM κ) RX12 cX12_toldAt 4 (some .int) 0 0 0 0 (some (.int Z)) S 2 [(0, .ref κ.o), (1, .int x1), (2, .int x2), (3, .int x3)] [] S := by
  induction n with
  | zero => intro x1 x2 x3 h; rw [r_toldAt_2] at h; cases h
  | succ n ih =>
    intro x1 x2 x3 h
    rw [r_toldAt_2] at h
    refine Go.iload_n 3 dX12_toldAt_2 rfl ?_
    refine Go.aload_n 0 dX12_toldAt_3 rfl ?_
    refine GM.geta 0 0 (by decide) rfl fl_a rfl dX12_toldAt_4 ?_
    refine Go.iconst 5 dX12_toldAt_7 (by decide) ?_
    refine GM.iald 0 (by decide) rfl dX12_toldAt_8 h (fun v1 h => ?_)
    refine Go.icmp_ge 52 dX12_toldAt_9 (by decide) h (fun h => ?_) (fun h => ?_)
    · refine Go.iconst (-1) dX12_toldAt_52 (by decide) ?_
      cases h
      exact Go.iret dX12_toldAt_53 rfl
    · refine Go.aload_n 0 dX12_toldAt_12 rfl ?_
      refine GM.geta 0 0 (by decide) rfl fl_a rfl dX12_toldAt_13 ?_
      refine Go.bipush 46 dX12_toldAt_16 (by decide) ?_
      refine Go.iconst 3 dX12_toldAt_18 (by decide) ?_
      refine Go.iload_n 3 dX12_toldAt_19 rfl ?_
      refine Go.imul dX12_toldAt_20 ?_
      refine Go.iadd dX12_toldAt_21 ?_
      refine GM.iald 0 (by decide) rfl dX12_toldAt_22 h (fun v2 h => ?_)
      refine Go.iload_n 1 dX12_toldAt_23 rfl ?_
      refine Go.icmp_ne 46 dX12_toldAt_24 (by decide) h (fun h => ?_) (fun h => ?_)
      · exact rs_toldAt_46 _ ih _ _ _ h
      · refine Go.aload_n 0 dX12_toldAt_27 rfl ?_
        refine GM.geta 0 0 (by decide) rfl fl_a rfl dX12_toldAt_28 ?_
        refine Go.bipush 46 dX12_toldAt_31 (by decide) ?_
        refine Go.iconst 3 dX12_toldAt_33 (by decide) ?_
        refine Go.iload_n 3 dX12_toldAt_34 rfl ?_
        refine Go.imul dX12_toldAt_35 ?_
        refine Go.iadd dX12_toldAt_36 ?_
        refine Go.iconst 1 dX12_toldAt_37 (by decide) ?_
        refine Go.iadd dX12_toldAt_38 ?_
        refine GM.iald 0 (by decide) rfl dX12_toldAt_39 h (fun v3 h => ?_)
        refine Go.iload_n 2 dX12_toldAt_40 rfl ?_
        refine Go.icmp_ne 46 dX12_toldAt_41 (by decide) h (fun h => ?_) (fun h => ?_)
        · exact rs_toldAt_46 _ ih _ _ _ h
        · refine Go.iload_n 3 dX12_toldAt_44 rfl ?_
          cases h
          exact Go.iret dX12_toldAt_45 rfl
set_option maxRecDepth 20000 in
theorem rs_toldAt {l : Launch} {κ : KMt} {S : MS} {Z : Int32} (x1 : Int32) (x2 : Int32) (h : r_toldAt S x1 x2 = some Z) : Go l (EM κ) RX12 cX12_toldAt 4 (some .int) 0 0 0 0 (some (.int Z)) S 0 [(0, .ref κ.o), (1, .int x1), (2, .int x2)] [] S := by
  unfold r_toldAt at h
  refine Go.iconst 0 dX12_toldAt_0 (by decide) ?_
  refine Go.istore_n [(0, .ref κ.o), (1, .int x1), (2, .int x2), (3, .int 0)] dX12_toldAt_1 (by decide) rfl ?_
  exact rs_toldAt_2 _ _ _ _ h
set_option maxRecDepth 20000 in
theorem rt_toldAt {l : Launch} {κ : KMt} {S : MS} (x1 : Int32) (x2 : Int32) : ∀ Z, r_toldAt S x1 x2 = some Z → MtM l κ yX12_toldAt cX12_toldAt 4 (some .int) 0 0 [.ref κ.o, .int x1, .int x2] S (some (.int Z)) S := fun Z h => MtM.of (by decide +kernel) rfl (Nat.le_of_ble_eq_true rfl) ⟨rfl, rfl, rfl, trivial⟩ (rs_toldAt x1 x2 h)
/-! farOf -/
def r_farOf (S : MS) (x1 : Int32) (x2 : Int32) : Option (Int32 × MS) := (r_toldAt S x1 x2).bind (fun v1 => if v1 = (-1) then (r_wordOf S x1).bind (fun v3 => (r_wordOf S x2).bind (fun v4 => bd2 (r_apartOf S v3 v4) (fun v5 S6 => some (v5, S6)))) else (rd S 0 ((46 + (3 * v1)) + 2)).bind (fun v2 => some (v2, S)))
set_option maxRecDepth 20000 in
theorem rs_farOf {l : Launch} {κ : KMt} {S : MS} {Z : Int32 × MS} (x1 : Int32) (x2 : Int32) (h : r_farOf S x1 x2 = some Z) : Go l (EM κ) RX12 cX12_farOf 4 (some .int) 5 120 0 0 (some (.int Z.1)) Z.2 0 [(0, .ref κ.o), (1, .int x1), (2, .int x2)] [] S := by
  unfold r_farOf at h
  refine Go.aload_n 0 dX12_farOf_0 rfl ?_
  refine Go.iload_n 1 dX12_farOf_1 rfl ?_
  refine Go.iload_n 2 dX12_farOf_2 rfl ?_
  refine GM.callvr (rest := []) [.int x1, .int x2] dX12_farOf_3 ck_toldAt ci_toldAt (rt_toldAt _ _) rfl rfl (Nat.le_of_ble_eq_true rfl) (Nat.le_of_ble_eq_true rfl) (Nat.le_of_ble_eq_true rfl) h (fun v1 h => ?_)
  refine Go.istore_n [(0, .ref κ.o), (1, .int x1), (2, .int x2), (3, .int v1)] dX12_farOf_6 (by decide) rfl ?_
  refine Go.iload_n 3 dX12_farOf_7 rfl ?_
  refine Go.iconst (-1) dX12_farOf_8 (by decide) ?_
  refine Go.icmp_ne 29 dX12_farOf_9 (by decide) h (fun h => ?_) (fun h => ?_)
  · refine Go.aload_n 0 dX12_farOf_29 rfl ?_
    refine GM.geta 0 0 (by decide) rfl fl_a rfl dX12_farOf_30 ?_
    refine Go.bipush 46 dX12_farOf_33 (by decide) ?_
    refine Go.iconst 3 dX12_farOf_35 (by decide) ?_
    refine Go.iload_n 3 dX12_farOf_36 rfl ?_
    refine Go.imul dX12_farOf_37 ?_
    refine Go.iadd dX12_farOf_38 ?_
    refine Go.iconst 2 dX12_farOf_39 (by decide) ?_
    refine Go.iadd dX12_farOf_40 ?_
    refine GM.iald 0 (by decide) rfl dX12_farOf_41 h (fun v2 h => ?_)
    cases h
    exact Go.iret dX12_farOf_42 rfl
  · refine Go.aload_n 0 dX12_farOf_12 rfl ?_
    refine Go.aload_n 0 dX12_farOf_13 rfl ?_
    refine Go.iload_n 1 dX12_farOf_14 rfl ?_
    refine GM.callvr (rest := [.ref κ.o]) [.int x1] dX12_farOf_15 ck_wordOf ci_wordOf (rt_wordOf _) rfl rfl (Nat.le_of_ble_eq_true rfl) (Nat.le_of_ble_eq_true rfl) (Nat.le_of_ble_eq_true rfl) h (fun v3 h => ?_)
    refine Go.aload_n 0 dX12_farOf_18 rfl ?_
    refine Go.iload_n 2 dX12_farOf_19 rfl ?_
    refine GM.callvr (rest := [.int v3, .ref κ.o]) [.int x2] dX12_farOf_20 ck_wordOf ci_wordOf (rt_wordOf _) rfl rfl (Nat.le_of_ble_eq_true rfl) (Nat.le_of_ble_eq_true rfl) (Nat.le_of_ble_eq_true rfl) h (fun v4 h => ?_)
    refine GM.callvw (rest := []) [.int v3, .int v4] dX12_farOf_23 ck_apartOf ci_apartOf (rt_apartOf _ _) rfl rfl (Nat.le_of_ble_eq_true rfl) (Nat.le_of_ble_eq_true rfl) (Nat.le_of_ble_eq_true rfl) h (fun v5 S6 h => ?_)
    refine Go.goto 42 dX12_farOf_26 (by decide) ?_
    cases h
    exact Go.iret dX12_farOf_42 rfl
set_option maxRecDepth 20000 in
theorem rt_farOf {l : Launch} {κ : KMt} {S : MS} (x1 : Int32) (x2 : Int32) : ∀ Z, r_farOf S x1 x2 = some Z → MtM l κ yX12_farOf cX12_farOf 4 (some .int) 5 120 [.ref κ.o, .int x1, .int x2] S (some (.int Z.1)) Z.2 := fun Z h => MtM.of (by decide +kernel) rfl (Nat.le_of_ble_eq_true rfl) ⟨rfl, rfl, rfl, trivial⟩ (rs_farOf x1 x2 h)
/-! at -/
def r_at (S : MS) (x1 : Int32) (x2 : Int32) : Option (Int32) := (rd S 0 ((94 + (30 * x1)) + x2)).bind (fun v1 => some v1)
set_option maxRecDepth 20000 in
theorem rs_at {l : Launch} {κ : KMt} {S : MS} {Z : Int32} (x1 : Int32) (x2 : Int32) (h : r_at S x1 x2 = some Z) : Go l (EM κ) RX12 cX12_at 3 (some .int) 0 0 0 0 (some (.int Z)) S 0 [(0, .ref κ.o), (1, .int x1), (2, .int x2)] [] S := by
  unfold r_at at h
  refine Go.aload_n 0 dX12_at_0 rfl ?_
  refine GM.geta 0 0 (by decide) rfl fl_a rfl dX12_at_1 ?_
  refine Go.bipush 94 dX12_at_4 (by decide) ?_
  refine Go.bipush 30 dX12_at_6 (by decide) ?_
  refine Go.iload_n 1 dX12_at_8 rfl ?_
  refine Go.imul dX12_at_9 ?_
  refine Go.iadd dX12_at_10 ?_
  refine Go.iload_n 2 dX12_at_11 rfl ?_
  refine Go.iadd dX12_at_12 ?_
  refine GM.iald 0 (by decide) rfl dX12_at_13 h (fun v1 h => ?_)
  cases h
  exact Go.iret dX12_at_14 rfl
set_option maxRecDepth 20000 in
theorem rt_at {l : Launch} {κ : KMt} {S : MS} (x1 : Int32) (x2 : Int32) : ∀ Z, r_at S x1 x2 = some Z → MtM l κ yX12_at cX12_at 3 (some .int) 0 0 [.ref κ.o, .int x1, .int x2] S (some (.int Z)) S := fun Z h => MtM.of (by decide +kernel) rfl (Nat.le_of_ble_eq_true rfl) ⟨rfl, rfl, rfl, trivial⟩ (rs_at x1 x2 h)
/-! countOf -/
def r_countOf (S : MS) (x1 : Int32) : Option (Int32) := (r_at S x1 0).bind (fun v1 => some v1)
set_option maxRecDepth 20000 in
theorem rs_countOf {l : Launch} {κ : KMt} {S : MS} {Z : Int32} (x1 : Int32) (h : r_countOf S x1 = some Z) : Go l (EM κ) RX12 cX12_countOf 2 (some .int) 1 22 0 0 (some (.int Z)) S 0 [(0, .ref κ.o), (1, .int x1)] [] S := by
  unfold r_countOf at h
  refine Go.aload_n 0 dX12_countOf_0 rfl ?_
  refine Go.iload_n 1 dX12_countOf_1 rfl ?_
  refine Go.iconst 0 dX12_countOf_2 (by decide) ?_
  refine GM.callvr (rest := []) [.int x1, .int 0] dX12_countOf_3 ck_at ci_at (rt_at _ _) rfl rfl (Nat.le_of_ble_eq_true rfl) (Nat.le_of_ble_eq_true rfl) (Nat.le_of_ble_eq_true rfl) h (fun v1 h => ?_)
  cases h
  exact Go.iret dX12_countOf_6 rfl
set_option maxRecDepth 20000 in
theorem rt_countOf {l : Launch} {κ : KMt} {S : MS} (x1 : Int32) : ∀ Z, r_countOf S x1 = some Z → MtM l κ yX12_countOf cX12_countOf 2 (some .int) 1 22 [.ref κ.o, .int x1] S (some (.int Z)) S := fun Z h => MtM.of (by decide +kernel) rfl (Nat.le_of_ble_eq_true rfl) ⟨rfl, rfl, trivial⟩ (rs_countOf x1 h)
/-! isLeaf -/
def r_isLeaf (S : MS) (x1 : Int32) : Option (Int32) := (r_at S x1 1).bind (fun v1 => if v1 = 1 then zb 1 else zb 0)
set_option maxRecDepth 20000 in
theorem rs_isLeaf {l : Launch} {κ : KMt} {S : MS} {Z : Int32} (x1 : Int32) (h : r_isLeaf S x1 = some Z) : Go l (EM κ) RX12 cX12_isLeaf 2 (some .boolean) 1 22 0 0 (some (.int Z)) S 0 [(0, .ref κ.o), (1, .int x1)] [] S := by
  unfold r_isLeaf at h
  refine Go.aload_n 0 dX12_isLeaf_0 rfl ?_
  refine Go.iload_n 1 dX12_isLeaf_1 rfl ?_
  refine Go.iconst 1 dX12_isLeaf_2 (by decide) ?_
  refine GM.callvr (rest := []) [.int x1, .int 1] dX12_isLeaf_3 ck_at ci_at (rt_at _ _) rfl rfl (Nat.le_of_ble_eq_true rfl) (Nat.le_of_ble_eq_true rfl) (Nat.le_of_ble_eq_true rfl) h (fun v1 h => ?_)
  refine Go.iconst 1 dX12_isLeaf_6 (by decide) ?_
  refine Go.icmp_ne 14 dX12_isLeaf_7 (by decide) h (fun h => ?_) (fun h => ?_)
  · refine Go.iconst 0 dX12_isLeaf_14 (by decide) ?_
    exact Go.zret dX12_isLeaf_15 rfl h
  · refine Go.iconst 1 dX12_isLeaf_10 (by decide) ?_
    refine Go.goto 15 dX12_isLeaf_11 (by decide) ?_
    exact Go.zret dX12_isLeaf_15 rfl h
set_option maxRecDepth 20000 in
theorem rt_isLeaf {l : Launch} {κ : KMt} {S : MS} (x1 : Int32) : ∀ Z, r_isLeaf S x1 = some Z → MtM l κ yX12_isLeaf cX12_isLeaf 2 (some .boolean) 1 22 [.ref κ.o, .int x1] S (some (.int Z)) S := fun Z h => MtM.of (by decide +kernel) rfl (Nat.le_of_ble_eq_true rfl) ⟨rfl, rfl, trivial⟩ (rs_isLeaf x1 h)
/-! entryOf -/
def r_entryOf (S : MS) (x1 : Int32) (x2 : Int32) (x3 : Int32) : Option (Int32) := (r_at S x1 ((2 + (4 * x2)) + x3)).bind (fun v1 => some v1)
set_option maxRecDepth 20000 in
theorem rs_entryOf {l : Launch} {κ : KMt} {S : MS} {Z : Int32} (x1 : Int32) (x2 : Int32) (x3 : Int32) (h : r_entryOf S x1 x2 x3 = some Z) : Go l (EM κ) RX12 cX12_entryOf 4 (some .int) 1 22 0 0 (some (.int Z)) S 0 [(0, .ref κ.o), (1, .int x1), (2, .int x2), (3, .int x3)] [] S := by
  unfold r_entryOf at h
  refine Go.aload_n 0 dX12_entryOf_0 rfl ?_
  refine Go.iload_n 1 dX12_entryOf_1 rfl ?_
  refine Go.iconst 2 dX12_entryOf_2 (by decide) ?_
  refine Go.iconst 4 dX12_entryOf_3 (by decide) ?_
  refine Go.iload_n 2 dX12_entryOf_4 rfl ?_
  refine Go.imul dX12_entryOf_5 ?_
  refine Go.iadd dX12_entryOf_6 ?_
  refine Go.iload_n 3 dX12_entryOf_7 rfl ?_
  refine Go.iadd dX12_entryOf_8 ?_
  refine GM.callvr (rest := []) [.int x1, .int ((2 + (4 * x2)) + x3)] dX12_entryOf_9 ck_at ci_at (rt_at _ _) rfl rfl (Nat.le_of_ble_eq_true rfl) (Nat.le_of_ble_eq_true rfl) (Nat.le_of_ble_eq_true rfl) h (fun v1 h => ?_)
  cases h
  exact Go.iret dX12_entryOf_12 rfl
set_option maxRecDepth 20000 in
theorem rt_entryOf {l : Launch} {κ : KMt} {S : MS} (x1 : Int32) (x2 : Int32) (x3 : Int32) : ∀ Z, r_entryOf S x1 x2 x3 = some Z → MtM l κ yX12_entryOf cX12_entryOf 4 (some .int) 1 22 [.ref κ.o, .int x1, .int x2, .int x3] S (some (.int Z)) S := fun Z h => MtM.of (by decide +kernel) rfl (Nat.le_of_ble_eq_true rfl) ⟨rfl, rfl, rfl, rfl, trivial⟩ (rs_entryOf x1 x2 x3 h)
/-! let -/
def r_let (S : MS) (x1 : Int32) (x2 : Int32) (x3 : Int32) : Option (MS) := (wr S 0 ((94 + (30 * x1)) + x2) x3).bind (fun S1 => some S1)
set_option maxRecDepth 20000 in
theorem rs_let {l : Launch} {κ : KMt} {S : MS} {Z : MS} (x1 : Int32) (x2 : Int32) (x3 : Int32) (h : r_let S x1 x2 x3 = some Z) : Go l (EM κ) RX12 cX12_let 4 none 0 0 0 0 none Z 0 [(0, .ref κ.o), (1, .int x1), (2, .int x2), (3, .int x3)] [] S := by
  unfold r_let at h
  refine Go.aload_n 0 dX12_let_0 rfl ?_
  refine GM.geta 0 0 (by decide) rfl fl_a rfl dX12_let_1 ?_
  refine Go.bipush 94 dX12_let_4 (by decide) ?_
  refine Go.bipush 30 dX12_let_6 (by decide) ?_
  refine Go.iload_n 1 dX12_let_8 rfl ?_
  refine Go.imul dX12_let_9 ?_
  refine Go.iadd dX12_let_10 ?_
  refine Go.iload_n 2 dX12_let_11 rfl ?_
  refine Go.iadd dX12_let_12 ?_
  refine Go.iload_n 3 dX12_let_13 rfl ?_
  refine GM.iast 0 (by decide) rfl dX12_let_14 h (fun S1 h => ?_)
  cases h
  exact Go.vret dX12_let_15 rfl
set_option maxRecDepth 20000 in
theorem rt_let {l : Launch} {κ : KMt} {S : MS} (x1 : Int32) (x2 : Int32) (x3 : Int32) : ∀ Z, r_let S x1 x2 x3 = some Z → MtM l κ yX12_let cX12_let 4 none 0 0 [.ref κ.o, .int x1, .int x2, .int x3] S none Z := fun Z h => MtM.of (by decide +kernel) rfl (Nat.le_of_ble_eq_true rfl) ⟨rfl, rfl, rfl, rfl, trivial⟩ (rs_let x1 x2 x3 h)
/-! letEntry -/
def r_letEntry (S : MS) (x1 : Int32) (x2 : Int32) (x3 : Int32) (x4 : Int32) : Option (MS) := (r_let S x1 ((2 + (4 * x2)) + x3) x4).bind (fun S1 => some S1)
set_option maxRecDepth 20000 in
theorem rs_letEntry {l : Launch} {κ : KMt} {S : MS} {Z : MS} (x1 : Int32) (x2 : Int32) (x3 : Int32) (x4 : Int32) (h : r_letEntry S x1 x2 x3 x4 = some Z) : Go l (EM κ) RX12 cX12_letEntry 5 none 1 23 0 0 none Z 0 [(0, .ref κ.o), (1, .int x1), (2, .int x2), (3, .int x3), (4, .int x4)] [] S := by
  unfold r_letEntry at h
  refine Go.aload_n 0 dX12_letEntry_0 rfl ?_
  refine Go.iload_n 1 dX12_letEntry_1 rfl ?_
  refine Go.iconst 2 dX12_letEntry_2 (by decide) ?_
  refine Go.iconst 4 dX12_letEntry_3 (by decide) ?_
  refine Go.iload_n 2 dX12_letEntry_4 rfl ?_
  refine Go.imul dX12_letEntry_5 ?_
  refine Go.iadd dX12_letEntry_6 ?_
  refine Go.iload_n 3 dX12_letEntry_7 rfl ?_
  refine Go.iadd dX12_letEntry_8 ?_
  refine Go.iload 4 dX12_letEntry_9 rfl ?_
  refine GM.callvu (rest := []) [.int x1, .int ((2 + (4 * x2)) + x3), .int x4] dX12_letEntry_11 ck_let ci_let (rt_let _ _ _) rfl rfl (Nat.le_of_ble_eq_true rfl) (Nat.le_of_ble_eq_true rfl) (Nat.le_of_ble_eq_true rfl) h (fun S1 h => ?_)
  cases h
  exact Go.vret dX12_letEntry_14 rfl
set_option maxRecDepth 20000 in
theorem rt_letEntry {l : Launch} {κ : KMt} {S : MS} (x1 : Int32) (x2 : Int32) (x3 : Int32) (x4 : Int32) : ∀ Z, r_letEntry S x1 x2 x3 x4 = some Z → MtM l κ yX12_letEntry cX12_letEntry 5 none 1 23 [.ref κ.o, .int x1, .int x2, .int x3, .int x4] S none Z := fun Z h => MtM.of (by decide +kernel) rfl (Nat.le_of_ble_eq_true rfl) ⟨rfl, rfl, rfl, rfl, rfl, trivial⟩ (rs_letEntry x1 x2 x3 x4 h)
/-! layEntry -/
def r_layEntry (S : MS) (x1 : Int32) (x2 : Int32) (x3 : Int32) (x4 : Int32) (x5 : Int32) (x6 : Int32) : Option (MS) := (r_letEntry S x1 x2 0 x3).bind (fun S1 => (r_letEntry S1 x1 x2 1 x4).bind (fun S2 => (r_letEntry S2 x1 x2 2 x5).bind (fun S3 => (r_letEntry S3 x1 x2 3 x6).bind (fun S4 => some S4))))
set_option maxRecDepth 20000 in
theorem rs_layEntry {l : Launch} {κ : KMt} {S : MS} {Z : MS} (x1 : Int32) (x2 : Int32) (x3 : Int32) (x4 : Int32) (x5 : Int32) (x6 : Int32) (h : r_layEntry S x1 x2 x3 x4 x5 x6 = some Z) : Go l (EM κ) RX12 cX12_layEntry 7 none 2 47 0 0 none Z 0 [(0, .ref κ.o), (1, .int x1), (2, .int x2), (3, .int x3), (4, .int x4), (5, .int x5), (6, .int x6)] [] S := by
  unfold r_layEntry at h
  refine Go.aload_n 0 dX12_layEntry_0 rfl ?_
  refine Go.iload_n 1 dX12_layEntry_1 rfl ?_
  refine Go.iload_n 2 dX12_layEntry_2 rfl ?_
  refine Go.iconst 0 dX12_layEntry_3 (by decide) ?_
  refine Go.iload_n 3 dX12_layEntry_4 rfl ?_
  refine GM.callvu (rest := []) [.int x1, .int x2, .int 0, .int x3] dX12_layEntry_5 ck_letEntry ci_letEntry (rt_letEntry _ _ _ _) rfl rfl (Nat.le_of_ble_eq_true rfl) (Nat.le_of_ble_eq_true rfl) (Nat.le_of_ble_eq_true rfl) h (fun S1 h => ?_)
  refine Go.aload_n 0 dX12_layEntry_8 rfl ?_
  refine Go.iload_n 1 dX12_layEntry_9 rfl ?_
  refine Go.iload_n 2 dX12_layEntry_10 rfl ?_
  refine Go.iconst 1 dX12_layEntry_11 (by decide) ?_
  refine Go.iload 4 dX12_layEntry_12 rfl ?_
  refine GM.callvu (rest := []) [.int x1, .int x2, .int 1, .int x4] dX12_layEntry_14 ck_letEntry ci_letEntry (rt_letEntry _ _ _ _) rfl rfl (Nat.le_of_ble_eq_true rfl) (Nat.le_of_ble_eq_true rfl) (Nat.le_of_ble_eq_true rfl) h (fun S2 h => ?_)
  refine Go.aload_n 0 dX12_layEntry_17 rfl ?_
  refine Go.iload_n 1 dX12_layEntry_18 rfl ?_
  refine Go.iload_n 2 dX12_layEntry_19 rfl ?_
  refine Go.iconst 2 dX12_layEntry_20 (by decide) ?_
  refine Go.iload 5 dX12_layEntry_21 rfl ?_
  refine GM.callvu (rest := []) [.int x1, .int x2, .int 2, .int x5] dX12_layEntry_23 ck_letEntry ci_letEntry (rt_letEntry _ _ _ _) rfl rfl (Nat.le_of_ble_eq_true rfl) (Nat.le_of_ble_eq_true rfl) (Nat.le_of_ble_eq_true rfl) h (fun S3 h => ?_)
  refine Go.aload_n 0 dX12_layEntry_26 rfl ?_
  refine Go.iload_n 1 dX12_layEntry_27 rfl ?_
  refine Go.iload_n 2 dX12_layEntry_28 rfl ?_
  refine Go.iconst 3 dX12_layEntry_29 (by decide) ?_
  refine Go.iload 6 dX12_layEntry_30 rfl ?_
  refine GM.callvu (rest := []) [.int x1, .int x2, .int 3, .int x6] dX12_layEntry_32 ck_letEntry ci_letEntry (rt_letEntry _ _ _ _) rfl rfl (Nat.le_of_ble_eq_true rfl) (Nat.le_of_ble_eq_true rfl) (Nat.le_of_ble_eq_true rfl) h (fun S4 h => ?_)
  cases h
  exact Go.vret dX12_layEntry_35 rfl
set_option maxRecDepth 20000 in
theorem rt_layEntry {l : Launch} {κ : KMt} {S : MS} (x1 : Int32) (x2 : Int32) (x3 : Int32) (x4 : Int32) (x5 : Int32) (x6 : Int32) : ∀ Z, r_layEntry S x1 x2 x3 x4 x5 x6 = some Z → MtM l κ yX12_layEntry cX12_layEntry 7 none 2 47 [.ref κ.o, .int x1, .int x2, .int x3, .int x4, .int x5, .int x6] S none Z := fun Z h => MtM.of (by decide +kernel) rfl (Nat.le_of_ble_eq_true rfl) ⟨rfl, rfl, rfl, rfl, rfl, rfl, rfl, trivial⟩ (rs_layEntry x1 x2 x3 x4 x5 x6 h)
/-! newPage -/
def r_newPage_19  : Nat → Int32 → Int32 → Int32 → MS → Option (Int32 × MS)
  | 0, _, _, _, _ => none
  | n + 1, x1, x2, x3, S => if 30 ≤ x3 then if x1 = 0 then some (x2, S) else (r_let S x2 1 1).bind (fun S1 => some (x2, S1)) else (r_let S x2 x3 0).bind (fun S2 => r_newPage_19 n x1 x2 (x3 + 1) S2)
def r_newPage_2  : Nat → Int32 → Int32 → MS → Option (Int32 × MS)
  | 0, _, _, _ => none
  | n + 1, x1, x2, S => (r_countOf S x2).bind (fun v3 => if v3 = (-1) then r_newPage_19 FU x1 x2 0 S else r_newPage_2 n x1 (x2 + 1) S)
def r_newPage (S : MS) (x1 : Int32) : Option (Int32 × MS) := r_newPage_2 FU x1 0 S
set_option maxRecDepth 20000 in
theorem rs_newPage_19 {l : Launch} {κ : KMt} {Z : Int32 × MS} (n : Nat) : ∀ (x1 : Int32) (x2 : Int32) (x3 : Int32) (S : MS), r_newPage_19 n x1 x2 x3 S = some Z → Go l (EM κ) RX12 cX12_newPage 4 (some .int) 2 43 0 0 (some (.int Z.1)) Z.2 19 [(0, .ref κ.o), (1, .int x1), (2, .int x2), (3, .int x3)] [] S := by
  induction n with
  | zero => intro x1 x2 x3 S h; rw [r_newPage_19] at h; cases h
  | succ n ih =>
    intro x1 x2 x3 S h
    rw [r_newPage_19] at h
    refine Go.iload_n 3 dX12_newPage_19 rfl ?_
    refine Go.bipush 30 dX12_newPage_20 (by decide) ?_
    refine Go.icmp_ge 38 dX12_newPage_22 (by decide) h (fun h => ?_) (fun h => ?_)
    · refine Go.iload_n 1 dX12_newPage_38 rfl ?_
      refine Go.if_eq 49 dX12_newPage_39 (by decide) h (fun h => ?_) (fun h => ?_)
      · refine Go.iload_n 2 dX12_newPage_49 rfl ?_
        cases h
        exact Go.iret dX12_newPage_50 rfl
      · refine Go.aload_n 0 dX12_newPage_42 rfl ?_
        refine Go.iload_n 2 dX12_newPage_43 rfl ?_
        refine Go.iconst 1 dX12_newPage_44 (by decide) ?_
        refine Go.iconst 1 dX12_newPage_45 (by decide) ?_
        refine GM.callvu (rest := []) [.int x2, .int 1, .int 1] dX12_newPage_46 ck_let ci_let (rt_let _ _ _) rfl rfl (Nat.le_of_ble_eq_true rfl) (Nat.le_of_ble_eq_true rfl) (Nat.le_of_ble_eq_true rfl) h (fun S1 h => ?_)
        refine Go.iload_n 2 dX12_newPage_49 rfl ?_
        cases h
        exact Go.iret dX12_newPage_50 rfl
    · refine Go.aload_n 0 dX12_newPage_25 rfl ?_
      refine Go.iload_n 2 dX12_newPage_26 rfl ?_
      refine Go.iload_n 3 dX12_newPage_27 rfl ?_
      refine Go.iconst 0 dX12_newPage_28 (by decide) ?_
      refine GM.callvu (rest := []) [.int x2, .int x3, .int 0] dX12_newPage_29 ck_let ci_let (rt_let _ _ _) rfl rfl (Nat.le_of_ble_eq_true rfl) (Nat.le_of_ble_eq_true rfl) (Nat.le_of_ble_eq_true rfl) h (fun S2 h => ?_)
      refine Go.iinc (w := 1) 3 [(0, .ref κ.o), (1, .int x1), (2, .int x2), (3, .int (x3 + 1))] dX12_newPage_32 rfl (by decide) (by decide) rfl ?_
      refine Go.goto 19 dX12_newPage_35 (by decide) ?_
      exact ih _ _ _ _ h
set_option maxRecDepth 20000 in
theorem rs_newPage_2 {l : Launch} {κ : KMt} {Z : Int32 × MS} (n : Nat) : ∀ (x1 : Int32) (x2 : Int32) (S : MS), r_newPage_2 n x1 x2 S = some Z → Go l (EM κ) RX12 cX12_newPage 4 (some .int) 2 43 0 0 (some (.int Z.1)) Z.2 2 [(0, .ref κ.o), (1, .int x1), (2, .int x2)] [] S := by
  induction n with
  | zero => intro x1 x2 S h; rw [r_newPage_2] at h; cases h
  | succ n ih =>
    intro x1 x2 S h
    rw [r_newPage_2] at h
    refine Go.aload_n 0 dX12_newPage_2 rfl ?_
    refine Go.iload_n 2 dX12_newPage_3 rfl ?_
    refine GM.callvr (rest := []) [.int x2] dX12_newPage_4 ck_countOf ci_countOf (rt_countOf _) rfl rfl (Nat.le_of_ble_eq_true rfl) (Nat.le_of_ble_eq_true rfl) (Nat.le_of_ble_eq_true rfl) h (fun v3 h => ?_)
    refine Go.iconst (-1) dX12_newPage_7 (by decide) ?_
    refine Go.icmp_eq 17 dX12_newPage_8 (by decide) h (fun h => ?_) (fun h => ?_)
    · refine Go.iconst 0 dX12_newPage_17 (by decide) ?_
      refine Go.istore_n [(0, .ref κ.o), (1, .int x1), (2, .int x2), (3, .int 0)] dX12_newPage_18 (by decide) rfl ?_
      exact rs_newPage_19 _ _ _ _ _ h
    · refine Go.iinc (w := 1) 2 [(0, .ref κ.o), (1, .int x1), (2, .int (x2 + 1))] dX12_newPage_11 rfl (by decide) (by decide) rfl ?_
      refine Go.goto 2 dX12_newPage_14 (by decide) ?_
      exact ih _ _ _ h
set_option maxRecDepth 20000 in
theorem rs_newPage {l : Launch} {κ : KMt} {S : MS} {Z : Int32 × MS} (x1 : Int32) (h : r_newPage S x1 = some Z) : Go l (EM κ) RX12 cX12_newPage 4 (some .int) 2 43 0 0 (some (.int Z.1)) Z.2 0 [(0, .ref κ.o), (1, .int x1)] [] S := by
  unfold r_newPage at h
  refine Go.iconst 0 dX12_newPage_0 (by decide) ?_
  refine Go.istore_n [(0, .ref κ.o), (1, .int x1), (2, .int 0)] dX12_newPage_1 (by decide) rfl ?_
  exact rs_newPage_2 _ _ _ _ h
set_option maxRecDepth 20000 in
theorem rt_newPage {l : Launch} {κ : KMt} {S : MS} (x1 : Int32) : ∀ Z, r_newPage S x1 = some Z → MtM l κ yX12_newPage cX12_newPage 4 (some .int) 2 43 [.ref κ.o, .int x1] S (some (.int Z.1)) Z.2 := fun Z h => MtM.of (by decide +kernel) rfl (Nat.le_of_ble_eq_true rfl) ⟨rfl, rfl, trivial⟩ (rs_newPage x1 h)
/-! freePage -/
def r_freePage_2  : Nat → Int32 → Int32 → MS → Option (MS)
  | 0, _, _, _ => none
  | n + 1, x1, x2, S => if 30 ≤ x2 then (r_let S x1 0 (-1)).bind (fun S1 => some S1) else (r_let S x1 x2 0).bind (fun S2 => r_freePage_2 n x1 (x2 + 1) S2)
def r_freePage (S : MS) (x1 : Int32) : Option (MS) := r_freePage_2 FU x1 0 S
set_option maxRecDepth 20000 in
theorem rs_freePage_2 {l : Launch} {κ : KMt} {Z : MS} (n : Nat) : ∀ (x1 : Int32) (x2 : Int32) (S : MS), r_freePage_2 n x1 x2 S = some Z → Go l (EM κ) RX12 cX12_freePage 3 none 1 23 0 0 none Z 2 [(0, .ref κ.o), (1, .int x1), (2, .int x2)] [] S := by
  induction n with
  | zero => intro x1 x2 S h; rw [r_freePage_2] at h; cases h
  | succ n ih =>
    intro x1 x2 S h
    rw [r_freePage_2] at h
    refine Go.iload_n 2 dX12_freePage_2 rfl ?_
    refine Go.bipush 30 dX12_freePage_3 (by decide) ?_
    refine Go.icmp_ge 21 dX12_freePage_5 (by decide) h (fun h => ?_) (fun h => ?_)
    · refine Go.aload_n 0 dX12_freePage_21 rfl ?_
      refine Go.iload_n 1 dX12_freePage_22 rfl ?_
      refine Go.iconst 0 dX12_freePage_23 (by decide) ?_
      refine Go.iconst (-1) dX12_freePage_24 (by decide) ?_
      refine GM.callvu (rest := []) [.int x1, .int 0, .int (-1)] dX12_freePage_25 ck_let ci_let (rt_let _ _ _) rfl rfl (Nat.le_of_ble_eq_true rfl) (Nat.le_of_ble_eq_true rfl) (Nat.le_of_ble_eq_true rfl) h (fun S1 h => ?_)
      cases h
      exact Go.vret dX12_freePage_28 rfl
    · refine Go.aload_n 0 dX12_freePage_8 rfl ?_
      refine Go.iload_n 1 dX12_freePage_9 rfl ?_
      refine Go.iload_n 2 dX12_freePage_10 rfl ?_
      refine Go.iconst 0 dX12_freePage_11 (by decide) ?_
      refine GM.callvu (rest := []) [.int x1, .int x2, .int 0] dX12_freePage_12 ck_let ci_let (rt_let _ _ _) rfl rfl (Nat.le_of_ble_eq_true rfl) (Nat.le_of_ble_eq_true rfl) (Nat.le_of_ble_eq_true rfl) h (fun S2 h => ?_)
      refine Go.iinc (w := 1) 2 [(0, .ref κ.o), (1, .int x1), (2, .int (x2 + 1))] dX12_freePage_15 rfl (by decide) (by decide) rfl ?_
      refine Go.goto 2 dX12_freePage_18 (by decide) ?_
      exact ih _ _ _ h
set_option maxRecDepth 20000 in
theorem rs_freePage {l : Launch} {κ : KMt} {S : MS} {Z : MS} (x1 : Int32) (h : r_freePage S x1 = some Z) : Go l (EM κ) RX12 cX12_freePage 3 none 1 23 0 0 none Z 0 [(0, .ref κ.o), (1, .int x1)] [] S := by
  unfold r_freePage at h
  refine Go.iconst 0 dX12_freePage_0 (by decide) ?_
  refine Go.istore_n [(0, .ref κ.o), (1, .int x1), (2, .int 0)] dX12_freePage_1 (by decide) rfl ?_
  exact rs_freePage_2 _ _ _ _ h
set_option maxRecDepth 20000 in
theorem rt_freePage {l : Launch} {κ : KMt} {S : MS} (x1 : Int32) : ∀ Z, r_freePage S x1 = some Z → MtM l κ yX12_freePage cX12_freePage 3 none 1 23 [.ref κ.o, .int x1] S none Z := fun Z h => MtM.of (by decide +kernel) rfl (Nat.le_of_ble_eq_true rfl) ⟨rfl, rfl, trivial⟩ (rs_freePage x1 h)
/-! clearTree -/
def r_clearTree_2  : Nat → Int32 → MS → Option (MS)
  | 0, _, _ => none
  | n + 1, x1, S => if 784 ≤ x1 then bd2 (r_newPage S 1) (fun v1 S2 => (wr S2 0 2 v1).bind (fun S3 => some S3)) else (r_freePage S x1).bind (fun S4 => r_clearTree_2 n (x1 + 1) S4)
def r_clearTree (S : MS)  : Option (MS) := r_clearTree_2 FU 0 S
set_option maxRecDepth 20000 in
theorem rs_clearTree_2 {l : Launch} {κ : KMt} {Z : MS} (n : Nat) : ∀ (x1 : Int32) (S : MS), r_clearTree_2 n x1 S = some Z → Go l (EM κ) RX12 cX12_clearTree 2 none 3 66 0 0 none Z 2 [(0, .ref κ.o), (1, .int x1)] [] S := by
  induction n with
  | zero => intro x1 S h; rw [r_clearTree_2] at h; cases h
  | succ n ih =>
    intro x1 S h
    rw [r_clearTree_2] at h
    refine Go.iload_n 1 dX12_clearTree_2 rfl ?_
    refine Go.sipush 784 dX12_clearTree_3 (by decide) ?_
    refine Go.icmp_ge 20 dX12_clearTree_6 (by decide) h (fun h => ?_) (fun h => ?_)
    · refine Go.aload_n 0 dX12_clearTree_20 rfl ?_
      refine GM.geta 0 0 (by decide) rfl fl_a rfl dX12_clearTree_21 ?_
      refine Go.iconst 2 dX12_clearTree_24 (by decide) ?_
      refine Go.aload_n 0 dX12_clearTree_25 rfl ?_
      refine Go.iconst 1 dX12_clearTree_26 (by decide) ?_
      refine GM.callvw (rest := [.int 2, .ref (κ.o + 1 + 0)]) [.int 1] dX12_clearTree_27 ck_newPage ci_newPage (rt_newPage _) rfl rfl (Nat.le_of_ble_eq_true rfl) (Nat.le_of_ble_eq_true rfl) (Nat.le_of_ble_eq_true rfl) h (fun v1 S2 h => ?_)
      refine GM.iast 0 (by decide) rfl dX12_clearTree_30 h (fun S3 h => ?_)
      cases h
      exact Go.vret dX12_clearTree_31 rfl
    · refine Go.aload_n 0 dX12_clearTree_9 rfl ?_
      refine Go.iload_n 1 dX12_clearTree_10 rfl ?_
      refine GM.callvu (rest := []) [.int x1] dX12_clearTree_11 ck_freePage ci_freePage (rt_freePage _) rfl rfl (Nat.le_of_ble_eq_true rfl) (Nat.le_of_ble_eq_true rfl) (Nat.le_of_ble_eq_true rfl) h (fun S4 h => ?_)
      refine Go.iinc (w := 1) 1 [(0, .ref κ.o), (1, .int (x1 + 1))] dX12_clearTree_14 rfl (by decide) (by decide) rfl ?_
      refine Go.goto 2 dX12_clearTree_17 (by decide) ?_
      exact ih _ _ h
set_option maxRecDepth 20000 in
theorem rs_clearTree {l : Launch} {κ : KMt} {S : MS} {Z : MS}  (h : r_clearTree S  = some Z) : Go l (EM κ) RX12 cX12_clearTree 2 none 3 66 0 0 none Z 0 [(0, .ref κ.o)] [] S := by
  unfold r_clearTree at h
  refine Go.iconst 0 dX12_clearTree_0 (by decide) ?_
  refine Go.istore_n [(0, .ref κ.o), (1, .int 0)] dX12_clearTree_1 (by decide) rfl ?_
  exact rs_clearTree_2 _ _ _ h
set_option maxRecDepth 20000 in
theorem rt_clearTree {l : Launch} {κ : KMt} {S : MS}  : ∀ Z, r_clearTree S  = some Z → MtM l κ yX12_clearTree cX12_clearTree 2 none 3 66 [.ref κ.o] S none Z := fun Z h => MtM.of (by decide +kernel) rfl (Nat.le_of_ble_eq_true rfl) ⟨rfl, trivial⟩ (rs_clearTree  h)
/-! insert -/
def r_insert_7  : Nat → Int32 → Int32 → Int32 → Int32 → Int32 → Int32 → Int32 → MS → Option (MS)
  | 0, _, _, _, _, _, _, _, _ => none
  | n + 1, x1, x2, x3, x4, x5, x6, x7, S => if x7 ≤ x2 then (r_layEntry S x1 x2 x3 x4 x5 x6).bind (fun S1 => (r_countOf S1 x1).bind (fun v2 => (r_let S1 x1 0 (v2 + 1)).bind (fun S3 => some S3))) else (r_entryOf S x1 (x7 - 1) 0).bind (fun v4 => (r_entryOf S x1 (x7 - 1) 1).bind (fun v5 => (r_entryOf S x1 (x7 - 1) 2).bind (fun v6 => (r_entryOf S x1 (x7 - 1) 3).bind (fun v7 => (r_layEntry S x1 x7 v4 v5 v6 v7).bind (fun S8 => r_insert_7 n x1 x2 x3 x4 x5 x6 (x7 + (-1)) S8)))))
def r_insert (S : MS) (x1 : Int32) (x2 : Int32) (x3 : Int32) (x4 : Int32) (x5 : Int32) (x6 : Int32) : Option (MS) := (r_countOf S x1).bind (fun v9 => r_insert_7 FU x1 x2 x3 x4 x5 x6 v9 S)
set_option maxRecDepth 20000 in
theorem rs_insert_7 {l : Launch} {κ : KMt} {Z : MS} (n : Nat) : ∀ (x1 : Int32) (x2 : Int32) (x3 : Int32) (x4 : Int32) (x5 : Int32) (x6 : Int32) (x7 : Int32) (S : MS), r_insert_7 n x1 x2 x3 x4 x5 x6 x7 S = some Z → Go l (EM κ) RX12 cX12_insert 8 none 3 73 0 0 none Z 7 [(0, .ref κ.o), (1, .int x1), (2, .int x2), (3, .int x3), (4, .int x4), (5, .int x5), (6, .int x6), (7, .int x7)] [] S := by
  induction n with
  | zero => intro x1 x2 x3 x4 x5 x6 x7 S h; rw [r_insert_7] at h; cases h
  | succ n ih =>
    intro x1 x2 x3 x4 x5 x6 x7 S h
    rw [r_insert_7] at h
    refine Go.iload 7 dX12_insert_7 rfl ?_
    refine Go.iload_n 2 dX12_insert_9 rfl ?_
    refine Go.icmp_le 66 dX12_insert_10 (by decide) h (fun h => ?_) (fun h => ?_)
    · refine Go.aload_n 0 dX12_insert_66 rfl ?_
      refine Go.iload_n 1 dX12_insert_67 rfl ?_
      refine Go.iload_n 2 dX12_insert_68 rfl ?_
      refine Go.iload_n 3 dX12_insert_69 rfl ?_
      refine Go.iload 4 dX12_insert_70 rfl ?_
      refine Go.iload 5 dX12_insert_72 rfl ?_
      refine Go.iload 6 dX12_insert_74 rfl ?_
      refine GM.callvu (rest := []) [.int x1, .int x2, .int x3, .int x4, .int x5, .int x6] dX12_insert_76 ck_layEntry ci_layEntry (rt_layEntry _ _ _ _ _ _) rfl rfl (Nat.le_of_ble_eq_true rfl) (Nat.le_of_ble_eq_true rfl) (Nat.le_of_ble_eq_true rfl) h (fun S1 h => ?_)
      refine Go.aload_n 0 dX12_insert_79 rfl ?_
      refine Go.iload_n 1 dX12_insert_80 rfl ?_
      refine Go.iconst 0 dX12_insert_81 (by decide) ?_
      refine Go.aload_n 0 dX12_insert_82 rfl ?_
      refine Go.iload_n 1 dX12_insert_83 rfl ?_
      refine GM.callvr (rest := [.int 0, .int x1, .ref κ.o]) [.int x1] dX12_insert_84 ck_countOf ci_countOf (rt_countOf _) rfl rfl (Nat.le_of_ble_eq_true rfl) (Nat.le_of_ble_eq_true rfl) (Nat.le_of_ble_eq_true rfl) h (fun v2 h => ?_)
      refine Go.iconst 1 dX12_insert_87 (by decide) ?_
      refine Go.iadd dX12_insert_88 ?_
      refine GM.callvu (rest := []) [.int x1, .int 0, .int (v2 + 1)] dX12_insert_89 ck_let ci_let (rt_let _ _ _) rfl rfl (Nat.le_of_ble_eq_true rfl) (Nat.le_of_ble_eq_true rfl) (Nat.le_of_ble_eq_true rfl) h (fun S3 h => ?_)
      cases h
      exact Go.vret dX12_insert_92 rfl
    · refine Go.aload_n 0 dX12_insert_13 rfl ?_
      refine Go.iload_n 1 dX12_insert_14 rfl ?_
      refine Go.iload 7 dX12_insert_15 rfl ?_
      refine Go.aload_n 0 dX12_insert_17 rfl ?_
      refine Go.iload_n 1 dX12_insert_18 rfl ?_
      refine Go.iload 7 dX12_insert_19 rfl ?_
      refine Go.iconst 1 dX12_insert_21 (by decide) ?_
      refine Go.isub dX12_insert_22 ?_
      refine Go.iconst 0 dX12_insert_23 (by decide) ?_
      refine GM.callvr (rest := [.int x7, .int x1, .ref κ.o]) [.int x1, .int (x7 - 1), .int 0] dX12_insert_24 ck_entryOf ci_entryOf (rt_entryOf _ _ _) rfl rfl (Nat.le_of_ble_eq_true rfl) (Nat.le_of_ble_eq_true rfl) (Nat.le_of_ble_eq_true rfl) h (fun v4 h => ?_)
      refine Go.aload_n 0 dX12_insert_27 rfl ?_
      refine Go.iload_n 1 dX12_insert_28 rfl ?_
      refine Go.iload 7 dX12_insert_29 rfl ?_
      refine Go.iconst 1 dX12_insert_31 (by decide) ?_
      refine Go.isub dX12_insert_32 ?_
      refine Go.iconst 1 dX12_insert_33 (by decide) ?_
      refine GM.callvr (rest := [.int v4, .int x7, .int x1, .ref κ.o]) [.int x1, .int (x7 - 1), .int 1] dX12_insert_34 ck_entryOf ci_entryOf (rt_entryOf _ _ _) rfl rfl (Nat.le_of_ble_eq_true rfl) (Nat.le_of_ble_eq_true rfl) (Nat.le_of_ble_eq_true rfl) h (fun v5 h => ?_)
      refine Go.aload_n 0 dX12_insert_37 rfl ?_
      refine Go.iload_n 1 dX12_insert_38 rfl ?_
      refine Go.iload 7 dX12_insert_39 rfl ?_
      refine Go.iconst 1 dX12_insert_41 (by decide) ?_
      refine Go.isub dX12_insert_42 ?_
      refine Go.iconst 2 dX12_insert_43 (by decide) ?_
      refine GM.callvr (rest := [.int v5, .int v4, .int x7, .int x1, .ref κ.o]) [.int x1, .int (x7 - 1), .int 2] dX12_insert_44 ck_entryOf ci_entryOf (rt_entryOf _ _ _) rfl rfl (Nat.le_of_ble_eq_true rfl) (Nat.le_of_ble_eq_true rfl) (Nat.le_of_ble_eq_true rfl) h (fun v6 h => ?_)
      refine Go.aload_n 0 dX12_insert_47 rfl ?_
      refine Go.iload_n 1 dX12_insert_48 rfl ?_
      refine Go.iload 7 dX12_insert_49 rfl ?_
      refine Go.iconst 1 dX12_insert_51 (by decide) ?_
      refine Go.isub dX12_insert_52 ?_
      refine Go.iconst 3 dX12_insert_53 (by decide) ?_
      refine GM.callvr (rest := [.int v6, .int v5, .int v4, .int x7, .int x1, .ref κ.o]) [.int x1, .int (x7 - 1), .int 3] dX12_insert_54 ck_entryOf ci_entryOf (rt_entryOf _ _ _) rfl rfl (Nat.le_of_ble_eq_true rfl) (Nat.le_of_ble_eq_true rfl) (Nat.le_of_ble_eq_true rfl) h (fun v7 h => ?_)
      refine GM.callvu (rest := []) [.int x1, .int x7, .int v4, .int v5, .int v6, .int v7] dX12_insert_57 ck_layEntry ci_layEntry (rt_layEntry _ _ _ _ _ _) rfl rfl (Nat.le_of_ble_eq_true rfl) (Nat.le_of_ble_eq_true rfl) (Nat.le_of_ble_eq_true rfl) h (fun S8 h => ?_)
      refine Go.iinc (w := (-1)) 7 [(0, .ref κ.o), (1, .int x1), (2, .int x2), (3, .int x3), (4, .int x4), (5, .int x5), (6, .int x6), (7, .int (x7 + (-1)))] dX12_insert_60 rfl (by decide) (by decide) rfl ?_
      refine Go.goto 7 dX12_insert_63 (by decide) ?_
      exact ih _ _ _ _ _ _ _ _ h
set_option maxRecDepth 20000 in
theorem rs_insert {l : Launch} {κ : KMt} {S : MS} {Z : MS} (x1 : Int32) (x2 : Int32) (x3 : Int32) (x4 : Int32) (x5 : Int32) (x6 : Int32) (h : r_insert S x1 x2 x3 x4 x5 x6 = some Z) : Go l (EM κ) RX12 cX12_insert 8 none 3 73 0 0 none Z 0 [(0, .ref κ.o), (1, .int x1), (2, .int x2), (3, .int x3), (4, .int x4), (5, .int x5), (6, .int x6)] [] S := by
  unfold r_insert at h
  refine Go.aload_n 0 dX12_insert_0 rfl ?_
  refine Go.iload_n 1 dX12_insert_1 rfl ?_
  refine GM.callvr (rest := []) [.int x1] dX12_insert_2 ck_countOf ci_countOf (rt_countOf _) rfl rfl (Nat.le_of_ble_eq_true rfl) (Nat.le_of_ble_eq_true rfl) (Nat.le_of_ble_eq_true rfl) h (fun v9 h => ?_)
  refine Go.istore [(0, .ref κ.o), (1, .int x1), (2, .int x2), (3, .int x3), (4, .int x4), (5, .int x5), (6, .int x6), (7, .int v9)] dX12_insert_5 (by decide) rfl ?_
  exact rs_insert_7 _ _ _ _ _ _ _ _ _ h
set_option maxRecDepth 20000 in
theorem rt_insert {l : Launch} {κ : KMt} {S : MS} (x1 : Int32) (x2 : Int32) (x3 : Int32) (x4 : Int32) (x5 : Int32) (x6 : Int32) : ∀ Z, r_insert S x1 x2 x3 x4 x5 x6 = some Z → MtM l κ yX12_insert cX12_insert 8 none 3 73 [.ref κ.o, .int x1, .int x2, .int x3, .int x4, .int x5, .int x6] S none Z := fun Z h => MtM.of (by decide +kernel) rfl (Nat.le_of_ble_eq_true rfl) ⟨rfl, rfl, rfl, rfl, rfl, rfl, rfl, trivial⟩ (rs_insert x1 x2 x3 x4 x5 x6 h)
/-! remove -/
def r_remove_11  : Nat → Int32 → Int32 → Int32 → MS → Option (MS)
  | 0, _, _, _, _ => none
  | n + 1, x1, x3, x4, S => if x3 ≤ x4 then (r_layEntry S x1 x3 0 0 0 0).bind (fun S1 => (r_let S1 x1 0 x3).bind (fun S2 => some S2)) else (r_entryOf S x1 (x4 + 1) 0).bind (fun v3 => (r_entryOf S x1 (x4 + 1) 1).bind (fun v4 => (r_entryOf S x1 (x4 + 1) 2).bind (fun v5 => (r_entryOf S x1 (x4 + 1) 3).bind (fun v6 => (r_layEntry S x1 x4 v3 v4 v5 v6).bind (fun S7 => r_remove_11 n x1 x3 (x4 + 1) S7)))))
def r_remove (S : MS) (x1 : Int32) (x2 : Int32) : Option (MS) := (r_countOf S x1).bind (fun v8 => r_remove_11 FU x1 (v8 - 1) x2 S)
set_option maxRecDepth 20000 in
theorem rs_remove_11 {l : Launch} {κ : KMt} {Z : MS} (n : Nat) : ∀ (x1 : Int32) (x3 : Int32) (x4 : Int32) (S : MS), r_remove_11 n x1 x3 x4 S = some Z → Go l (EM κ) RX12 cX12_remove 5 none 3 73 0 0 none Z 11 [(0, .ref κ.o), (1, .int x1), (3, .int x3), (4, .int x4)] [] S := by
  induction n with
  | zero => intro x1 x3 x4 S h; rw [r_remove_11] at h; cases h
  | succ n ih =>
    intro x1 x3 x4 S h
    rw [r_remove_11] at h
    refine Go.iload 3 dX12_remove_11 rfl ?_
    refine Go.iload_n 2 dX12_remove_13 rfl ?_
    refine Go.icmp_ge 70 dX12_remove_14 (by decide) h (fun h => ?_) (fun h => ?_)
    · refine Go.aload_n 0 dX12_remove_70 rfl ?_
      refine Go.iload_n 1 dX12_remove_71 rfl ?_
      refine Go.iload_n 2 dX12_remove_72 rfl ?_
      refine Go.iconst 0 dX12_remove_73 (by decide) ?_
      refine Go.iconst 0 dX12_remove_74 (by decide) ?_
      refine Go.iconst 0 dX12_remove_75 (by decide) ?_
      refine Go.iconst 0 dX12_remove_76 (by decide) ?_
      refine GM.callvu (rest := []) [.int x1, .int x3, .int 0, .int 0, .int 0, .int 0] dX12_remove_77 ck_layEntry ci_layEntry (rt_layEntry _ _ _ _ _ _) rfl rfl (Nat.le_of_ble_eq_true rfl) (Nat.le_of_ble_eq_true rfl) (Nat.le_of_ble_eq_true rfl) h (fun S1 h => ?_)
      refine Go.aload_n 0 dX12_remove_80 rfl ?_
      refine Go.iload_n 1 dX12_remove_81 rfl ?_
      refine Go.iconst 0 dX12_remove_82 (by decide) ?_
      refine Go.iload_n 2 dX12_remove_83 rfl ?_
      refine GM.callvu (rest := []) [.int x1, .int 0, .int x3] dX12_remove_84 ck_let ci_let (rt_let _ _ _) rfl rfl (Nat.le_of_ble_eq_true rfl) (Nat.le_of_ble_eq_true rfl) (Nat.le_of_ble_eq_true rfl) h (fun S2 h => ?_)
      cases h
      exact Go.vret dX12_remove_87 rfl
    · refine Go.aload_n 0 dX12_remove_17 rfl ?_
      refine Go.iload_n 1 dX12_remove_18 rfl ?_
      refine Go.iload 3 dX12_remove_19 rfl ?_
      refine Go.aload_n 0 dX12_remove_21 rfl ?_
      refine Go.iload_n 1 dX12_remove_22 rfl ?_
      refine Go.iload 3 dX12_remove_23 rfl ?_
      refine Go.iconst 1 dX12_remove_25 (by decide) ?_
      refine Go.iadd dX12_remove_26 ?_
      refine Go.iconst 0 dX12_remove_27 (by decide) ?_
      refine GM.callvr (rest := [.int x4, .int x1, .ref κ.o]) [.int x1, .int (x4 + 1), .int 0] dX12_remove_28 ck_entryOf ci_entryOf (rt_entryOf _ _ _) rfl rfl (Nat.le_of_ble_eq_true rfl) (Nat.le_of_ble_eq_true rfl) (Nat.le_of_ble_eq_true rfl) h (fun v3 h => ?_)
      refine Go.aload_n 0 dX12_remove_31 rfl ?_
      refine Go.iload_n 1 dX12_remove_32 rfl ?_
      refine Go.iload 3 dX12_remove_33 rfl ?_
      refine Go.iconst 1 dX12_remove_35 (by decide) ?_
      refine Go.iadd dX12_remove_36 ?_
      refine Go.iconst 1 dX12_remove_37 (by decide) ?_
      refine GM.callvr (rest := [.int v3, .int x4, .int x1, .ref κ.o]) [.int x1, .int (x4 + 1), .int 1] dX12_remove_38 ck_entryOf ci_entryOf (rt_entryOf _ _ _) rfl rfl (Nat.le_of_ble_eq_true rfl) (Nat.le_of_ble_eq_true rfl) (Nat.le_of_ble_eq_true rfl) h (fun v4 h => ?_)
      refine Go.aload_n 0 dX12_remove_41 rfl ?_
      refine Go.iload_n 1 dX12_remove_42 rfl ?_
      refine Go.iload 3 dX12_remove_43 rfl ?_
      refine Go.iconst 1 dX12_remove_45 (by decide) ?_
      refine Go.iadd dX12_remove_46 ?_
      refine Go.iconst 2 dX12_remove_47 (by decide) ?_
      refine GM.callvr (rest := [.int v4, .int v3, .int x4, .int x1, .ref κ.o]) [.int x1, .int (x4 + 1), .int 2] dX12_remove_48 ck_entryOf ci_entryOf (rt_entryOf _ _ _) rfl rfl (Nat.le_of_ble_eq_true rfl) (Nat.le_of_ble_eq_true rfl) (Nat.le_of_ble_eq_true rfl) h (fun v5 h => ?_)
      refine Go.aload_n 0 dX12_remove_51 rfl ?_
      refine Go.iload_n 1 dX12_remove_52 rfl ?_
      refine Go.iload 3 dX12_remove_53 rfl ?_
      refine Go.iconst 1 dX12_remove_55 (by decide) ?_
      refine Go.iadd dX12_remove_56 ?_
      refine Go.iconst 3 dX12_remove_57 (by decide) ?_
      refine GM.callvr (rest := [.int v5, .int v4, .int v3, .int x4, .int x1, .ref κ.o]) [.int x1, .int (x4 + 1), .int 3] dX12_remove_58 ck_entryOf ci_entryOf (rt_entryOf _ _ _) rfl rfl (Nat.le_of_ble_eq_true rfl) (Nat.le_of_ble_eq_true rfl) (Nat.le_of_ble_eq_true rfl) h (fun v6 h => ?_)
      refine GM.callvu (rest := []) [.int x1, .int x4, .int v3, .int v4, .int v5, .int v6] dX12_remove_61 ck_layEntry ci_layEntry (rt_layEntry _ _ _ _ _ _) rfl rfl (Nat.le_of_ble_eq_true rfl) (Nat.le_of_ble_eq_true rfl) (Nat.le_of_ble_eq_true rfl) h (fun S7 h => ?_)
      refine Go.iinc (w := 1) 3 [(0, .ref κ.o), (1, .int x1), (3, .int x3), (4, .int (x4 + 1))] dX12_remove_64 rfl (by decide) (by decide) rfl ?_
      refine Go.goto 11 dX12_remove_67 (by decide) ?_
      exact ih _ _ _ _ h
set_option maxRecDepth 20000 in
theorem rs_remove {l : Launch} {κ : KMt} {S : MS} {Z : MS} (x1 : Int32) (x2 : Int32) (h : r_remove S x1 x2 = some Z) : Go l (EM κ) RX12 cX12_remove 5 none 3 73 0 0 none Z 0 [(0, .ref κ.o), (1, .int x1), (2, .int x2)] [] S := by
  unfold r_remove at h
  refine Go.aload_n 0 dX12_remove_0 rfl ?_
  refine Go.iload_n 1 dX12_remove_1 rfl ?_
  refine GM.callvr (rest := []) [.int x1] dX12_remove_2 ck_countOf ci_countOf (rt_countOf _) rfl rfl (Nat.le_of_ble_eq_true rfl) (Nat.le_of_ble_eq_true rfl) (Nat.le_of_ble_eq_true rfl) h (fun v8 h => ?_)
  refine Go.iconst 1 dX12_remove_5 (by decide) ?_
  refine Go.isub dX12_remove_6 ?_
  refine Go.istore_n [(0, .ref κ.o), (1, .int x1), (2, .int x2), (3, .int (v8 - 1))] dX12_remove_7 (by decide) rfl ?_
  refine Go.iload_n 2 dX12_remove_8 rfl ?_
  refine Go.istore [(0, .ref κ.o), (1, .int x1), (2, .int x2), (3, .int (v8 - 1)), (4, .int x2)] dX12_remove_9 (by decide) rfl ?_
  refine Go.sub [0, 1, 3, 4] rfl ?_
  exact rs_remove_11 _ _ _ _ _ h
set_option maxRecDepth 20000 in
theorem rt_remove {l : Launch} {κ : KMt} {S : MS} (x1 : Int32) (x2 : Int32) : ∀ Z, r_remove S x1 x2 = some Z → MtM l κ yX12_remove cX12_remove 5 none 3 73 [.ref κ.o, .int x1, .int x2] S none Z := fun Z h => MtM.of (by decide +kernel) rfl (Nat.le_of_ble_eq_true rfl) ⟨rfl, rfl, rfl, trivial⟩ (rs_remove x1 x2 h)
