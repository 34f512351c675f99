/-! farthestBelow -/
def r_farthestBelow_58 (k18 : Int32 → Int32 → Int32 → Int32 → Int32 → MS → Option (Int32 × MS)) (x1 : Int32) (x2 : Int32) (x3 : Int32) (x5 : Int32) (y0 : Int32) (S : MS) : Option (Int32 × MS) := k18 x1 x2 x3 y0 (x5 + 1) S
def r_farthestBelow_18  : Nat → Int32 → Int32 → Int32 → Int32 → Int32 → MS → Option (Int32 × MS)
  | 0, _, _, _, _, _, _ => none
  | n + 1, x1, x2, x3, x4, x5, S => if x3 ≤ x5 then some (x4, S) else (r_entryOf S x1 x2 0).bind (fun v1 => (rd S 8 x5).bind (fun v2 => bd2 (r_farOf S v1 v2) (fun v3 S4 => if v3 ≤ x4 then r_farthestBelow_58 (r_farthestBelow_18 n) x1 x2 x3 x5 x4 S4 else r_farthestBelow_58 (r_farthestBelow_18 n) x1 x2 x3 x5 v3 S4)))
def r_farthestBelow (S : MS) (x1 : Int32) (x2 : Int32) : Option (Int32 × MS) := (r_entryOf S x1 x2 3).bind (fun v5 => bd2 (r_layBelow S v5) (fun v6 S7 => r_farthestBelow_18 FU x1 x2 v6 0 0 S7))
set_option maxRecDepth 20000 in
theorem rs_farthestBelow_58 {l : Launch} {κ : KMt} {Z : Int32 × MS} (k18 : Int32 → Int32 → Int32 → Int32 → Int32 → MS → Option (Int32 × MS)) (h18 : ∀ (x1 : Int32) (x2 : Int32) (x3 : Int32) (x4 : Int32) (x5 : Int32) (S : MS), k18 x1 x2 x3 x4 x5 S = some Z → Go l (EM κ) RX12 cX12_farthestBelow 7 (some .int) 6 143 0 0 (some (.int Z.1)) Z.2 18 [(0, .ref κ.o), (1, .int x1), (2, .int x2), (3, .int x3), (4, .int x4), (5, .int x5)] [] S) (x1 : Int32) (x2 : Int32) (x3 : Int32) (x5 : Int32) (y0 : Int32) (S : MS) (h : r_farthestBelow_58 k18 x1 x2 x3 x5 y0 S = some Z) : Go l (EM κ) RX12 cX12_farthestBelow 7 (some .int) 6 143 0 0 (some (.int Z.1)) Z.2 58 [(0, .ref κ.o), (1, .int x1), (2, .int x2), (3, .int x3), (5, .int x5)] [.int y0] S := by
  unfold r_farthestBelow_58 at h
  refine Go.istore [(0, .ref κ.o), (1, .int x1), (2, .int x2), (3, .int x3), (4, .int y0), (5, .int x5)] dX12_farthestBelow_58 (by decide) rfl ?_
  refine Go.iinc (w := 1) 5 [(0, .ref κ.o), (1, .int x1), (2, .int x2), (3, .int x3), (4, .int y0), (5, .int (x5 + 1))] dX12_farthestBelow_60 rfl (by decide) (by decide) rfl ?_
  refine Go.goto 18 dX12_farthestBelow_63 (by decide) ?_
  exact h18 _ _ _ _ _ _ h
set_option maxRecDepth 20000 in
theorem rs_farthestBelow_18 {l : Launch} {κ : KMt} {Z : Int32 × MS} (n : Nat) : ∀ (x1 : Int32) (x2 : Int32) (x3 : Int32) (x4 : Int32) (x5 : Int32) (S : MS), r_farthestBelow_18 n x1 x2 x3 x4 x5 S = some Z → Go l (EM κ) RX12 cX12_farthestBelow 7 (some .int) 6 143 0 0 (some (.int Z.1)) Z.2 18 [(0, .ref κ.o), (1, .int x1), (2, .int x2), (3, .int x3), (4, .int x4), (5, .int x5)] [] S := by
  induction n with
  | zero => intro x1 x2 x3 x4 x5 S h; rw [r_farthestBelow_18] at h; cases h
  | succ n ih =>
    intro x1 x2 x3 x4 x5 S h
    rw [r_farthestBelow_18] at h
    refine Go.iload 5 dX12_farthestBelow_18 rfl ?_
    refine Go.iload_n 3 dX12_farthestBelow_20 rfl ?_
    refine Go.icmp_ge 66 dX12_farthestBelow_21 (by decide) h (fun h => ?_) (fun h => ?_)
    · refine Go.iload 4 dX12_farthestBelow_66 rfl ?_
      cases h
      exact Go.iret dX12_farthestBelow_68 rfl
    · refine Go.aload_n 0 dX12_farthestBelow_24 rfl ?_
      refine Go.aload_n 0 dX12_farthestBelow_25 rfl ?_
      refine Go.iload_n 1 dX12_farthestBelow_26 rfl ?_
      refine Go.iload_n 2 dX12_farthestBelow_27 rfl ?_
      refine Go.iconst 0 dX12_farthestBelow_28 (by decide) ?_
      refine GM.callvr (rest := [.ref κ.o]) [.int x1, .int x2, .int 0] dX12_farthestBelow_29 ck_entryOf ci_entryOf (rt_entryOf _ _ _) rfl rfl (Nat.le_of_ble_eq_true rfl) (Nat.le_of_ble_eq_true rfl) (Nat.le_of_ble_eq_true rfl) h (fun v1 h => ?_)
      refine Go.aload_n 0 dX12_farthestBelow_32 rfl ?_
      refine GM.geta 15 8 (by decide) rfl fl_below rfl dX12_farthestBelow_33 ?_
      refine Go.iload 5 dX12_farthestBelow_36 rfl ?_
      refine GM.iald 8 (by decide) rfl dX12_farthestBelow_38 h (fun v2 h => ?_)
      refine GM.callvw (rest := []) [.int v1, .int v2] dX12_farthestBelow_39 ck_farOf ci_farOf (rt_farOf _ _) rfl rfl (Nat.le_of_ble_eq_true rfl) (Nat.le_of_ble_eq_true rfl) (Nat.le_of_ble_eq_true rfl) h (fun v3 S4 h => ?_)
      refine Go.istore [(0, .ref κ.o), (1, .int x1), (2, .int x2), (3, .int x3), (4, .int x4), (5, .int x5), (6, .int v3)] dX12_farthestBelow_42 (by decide) rfl ?_
      refine Go.iload 6 dX12_farthestBelow_44 rfl ?_
      refine Go.iload 4 dX12_farthestBelow_46 rfl ?_
      refine Go.icmp_le 56 dX12_farthestBelow_48 (by decide) h (fun h => ?_) (fun h => ?_)
      · refine Go.iload 4 dX12_farthestBelow_56 rfl ?_
        refine Go.sub [0, 1, 2, 3, 5] rfl ?_
        exact rs_farthestBelow_58 _ ih _ _ _ _ _ _ h
      · refine Go.iload 6 dX12_farthestBelow_51 rfl ?_
        refine Go.goto 58 dX12_farthestBelow_53 (by decide) ?_
        refine Go.sub [0, 1, 2, 3, 5] rfl ?_
        exact rs_farthestBelow_58 _ ih _ _ _ _ _ _ h
set_option maxRecDepth 20000 in
theorem rs_farthestBelow {l : Launch} {κ : KMt} {S : MS} {Z : Int32 × MS} (x1 : Int32) (x2 : Int32) (h : r_farthestBelow S x1 x2 = some Z) : Go l (EM κ) RX12 cX12_farthestBelow 7 (some .int) 6 143 0 0 (some (.int Z.1)) Z.2 0 [(0, .ref κ.o), (1, .int x1), (2, .int x2)] [] S := by
  unfold r_farthestBelow at h
  refine Go.aload_n 0 dX12_farthestBelow_0 rfl ?_
  refine Go.aload_n 0 dX12_farthestBelow_1 rfl ?_
  refine Go.iload_n 1 dX12_farthestBelow_2 rfl ?_
  refine Go.iload_n 2 dX12_farthestBelow_3 rfl ?_
  refine Go.iconst 3 dX12_farthestBelow_4 (by decide) ?_
  refine GM.callvr (rest := [.ref κ.o]) [.int x1, .int x2, .int 3] dX12_farthestBelow_5 ck_entryOf ci_entryOf (rt_entryOf _ _ _) rfl rfl (Nat.le_of_ble_eq_true rfl) (Nat.le_of_ble_eq_true rfl) (Nat.le_of_ble_eq_true rfl) h (fun v5 h => ?_)
  refine GM.callvw (rest := []) [.int v5] dX12_farthestBelow_8 ck_layBelow ci_layBelow (rt_layBelow _) rfl rfl (Nat.le_of_ble_eq_true rfl) (Nat.le_of_ble_eq_true rfl) (Nat.le_of_ble_eq_true rfl) h (fun v6 S7 h => ?_)
  refine Go.istore_n [(0, .ref κ.o), (1, .int x1), (2, .int x2), (3, .int v6)] dX12_farthestBelow_11 (by decide) rfl ?_
  refine Go.iconst 0 dX12_farthestBelow_12 (by decide) ?_
  refine Go.istore [(0, .ref κ.o), (1, .int x1), (2, .int x2), (3, .int v6), (4, .int 0)] dX12_farthestBelow_13 (by decide) rfl ?_
  refine Go.iconst 0 dX12_farthestBelow_15 (by decide) ?_
  refine Go.istore [(0, .ref κ.o), (1, .int x1), (2, .int x2), (3, .int v6), (4, .int 0), (5, .int 0)] dX12_farthestBelow_16 (by decide) rfl ?_
  exact rs_farthestBelow_18 _ _ _ _ _ _ _ h
set_option maxRecDepth 20000 in
theorem rt_farthestBelow {l : Launch} {κ : KMt} {S : MS} (x1 : Int32) (x2 : Int32) : ∀ Z, r_farthestBelow S x1 x2 = some Z → MtM l κ yX12_farthestBelow cX12_farthestBelow 7 (some .int) 6 143 [.ref κ.o, .int x1, .int x2] S (some (.int Z.1)) Z.2 := fun Z h => MtM.of (by decide +kernel) rfl (Nat.le_of_ble_eq_true rfl) ⟨rfl, rfl, rfl, trivial⟩ (rs_farthestBelow x1 x2 h)
/-! tight -/
def r_tight_70 (k8 : Int32 → Int32 → MS → Option (Int32 × MS)) (x1 : Int32) (x2 : Int32) (S : MS) : Option (Int32 × MS) := k8 x1 (x2 + 1) S
def r_tight_17 (k8 : Int32 → Int32 → MS → Option (Int32 × MS)) : Nat → Int32 → Int32 → Int32 → MS → Option (Int32 × MS)
  | 0, _, _, _, _ => none
  | n + 1, x1, x2, x3, S => (r_countOf S x2).bind (fun v1 => if v1 ≤ x3 then r_tight_70 k8 x1 x2 S else (r_isLeaf S x2).bind (fun v2 => if v2 = 0 then bd2 (r_farthestBelow S x2 x3) (fun v3 S4 => (r_entryOf S4 x2 x3 1).bind (fun v5 => (r_letEntry S4 x2 x3 1 v3).bind (fun S6 => r_tight_17 k8 n (x1 + (v5 - v3)) x2 (x3 + 1) S6))) else r_tight_70 k8 x1 x2 S))
def r_tight_8  : Nat → Int32 → Int32 → MS → Option (Int32 × MS)
  | 0, _, _, _ => none
  | n + 1, x1, x2, S => if 784 ≤ x2 then some (x1, S) else r_tight_17 (r_tight_8 n) FU x1 x2 0 S
def r_tight (S : MS)  : Option (Int32 × MS) := (r_keep S ).bind (fun S7 => r_tight_8 FU 0 0 S7)
set_option maxRecDepth 20000 in
theorem rs_tight_70 {l : Launch} {κ : KMt} {Z : Int32 × MS} (k8 : Int32 → Int32 → MS → Option (Int32 × MS)) (h8 : ∀ (x1 : Int32) (x2 : Int32) (S : MS), k8 x1 x2 S = some Z → Go l (EM κ) RX12 cX12_tight 5 (some .int) 7 169 0 0 (some (.int Z.1)) Z.2 8 [(0, .ref κ.o), (1, .int x1), (2, .int x2)] [] S) (x1 : Int32) (x2 : Int32) (S : MS) (h : r_tight_70 k8 x1 x2 S = some Z) : Go l (EM κ) RX12 cX12_tight 5 (some .int) 7 169 0 0 (some (.int Z.1)) Z.2 70 [(0, .ref κ.o), (1, .int x1), (2, .int x2)] [] S := by
  unfold r_tight_70 at h
  refine Go.iinc (w := 1) 2 [(0, .ref κ.o), (1, .int x1), (2, .int (x2 + 1))] dX12_tight_70 rfl (by decide) (by decide) rfl ?_
  refine Go.goto 8 dX12_tight_73 (by decide) ?_
  exact h8 _ _ _ h
set_option maxRecDepth 20000 in
theorem rs_tight_17 {l : Launch} {κ : KMt} {Z : Int32 × MS} (k8 : Int32 → Int32 → MS → Option (Int32 × MS)) (h8 : ∀ (x1 : Int32) (x2 : Int32) (S : MS), k8 x1 x2 S = some Z → Go l (EM κ) RX12 cX12_tight 5 (some .int) 7 169 0 0 (some (.int Z.1)) Z.2 8 [(0, .ref κ.o), (1, .int x1), (2, .int x2)] [] S) (n : Nat) : ∀ (x1 : Int32) (x2 : Int32) (x3 : Int32) (S : MS), r_tight_17 k8 n x1 x2 x3 S = some Z → Go l (EM κ) RX12 cX12_tight 5 (some .int) 7 169 0 0 (some (.int Z.1)) Z.2 17 [(0, .ref κ.o), (1, .int x1), (2, .int x2), (3, .int x3)] [] S := by
  induction n with
  | zero => intro x1 x2 x3 S h; rw [r_tight_17] at h; cases h
  | succ n ih =>
    intro x1 x2 x3 S h
    rw [r_tight_17] at h
    refine Go.iload_n 3 dX12_tight_17 rfl ?_
    refine Go.aload_n 0 dX12_tight_18 rfl ?_
    refine Go.iload_n 2 dX12_tight_19 rfl ?_
    refine GM.callvr (rest := [.int x3]) [.int x2] dX12_tight_20 ck_countOf ci_countOf (rt_countOf _) rfl rfl (Nat.le_of_ble_eq_true rfl) (Nat.le_of_ble_eq_true rfl) (Nat.le_of_ble_eq_true rfl) h (fun v1 h => ?_)
    refine Go.icmp_ge 70 dX12_tight_23 (by decide) h (fun h => ?_) (fun h => ?_)
    · refine Go.sub [0, 1, 2] rfl ?_
      exact rs_tight_70 _ h8 _ _ _ h
    · refine Go.aload_n 0 dX12_tight_26 rfl ?_
      refine Go.iload_n 2 dX12_tight_27 rfl ?_
      refine GM.callvr (rest := []) [.int x2] dX12_tight_28 ck_isLeaf ci_isLeaf (rt_isLeaf _) rfl rfl (Nat.le_of_ble_eq_true rfl) (Nat.le_of_ble_eq_true rfl) (Nat.le_of_ble_eq_true rfl) h (fun v2 h => ?_)
      refine Go.if_ne 70 dX12_tight_31 (by decide) h (fun h => ?_) (fun h => ?_)
      · refine Go.sub [0, 1, 2] rfl ?_
        exact rs_tight_70 _ h8 _ _ _ h
      · refine Go.aload_n 0 dX12_tight_34 rfl ?_
        refine Go.iload_n 2 dX12_tight_35 rfl ?_
        refine Go.iload_n 3 dX12_tight_36 rfl ?_
        refine GM.callvw (rest := []) [.int x2, .int x3] dX12_tight_37 ck_farthestBelow ci_farthestBelow (rt_farthestBelow _ _) rfl rfl (Nat.le_of_ble_eq_true rfl) (Nat.le_of_ble_eq_true rfl) (Nat.le_of_ble_eq_true rfl) h (fun v3 S4 h => ?_)
        refine Go.istore [(0, .ref κ.o), (1, .int x1), (2, .int x2), (3, .int x3), (4, .int v3)] dX12_tight_40 (by decide) rfl ?_
        refine Go.iload_n 1 dX12_tight_42 rfl ?_
        refine Go.aload_n 0 dX12_tight_43 rfl ?_
        refine Go.iload_n 2 dX12_tight_44 rfl ?_
        refine Go.iload_n 3 dX12_tight_45 rfl ?_
        refine Go.iconst 1 dX12_tight_46 (by decide) ?_
        refine GM.callvr (rest := [.int x1]) [.int x2, .int x3, .int 1] dX12_tight_47 ck_entryOf ci_entryOf (rt_entryOf _ _ _) rfl rfl (Nat.le_of_ble_eq_true rfl) (Nat.le_of_ble_eq_true rfl) (Nat.le_of_ble_eq_true rfl) h (fun v5 h => ?_)
        refine Go.iload 4 dX12_tight_50 rfl ?_
        refine Go.isub dX12_tight_52 ?_
        refine Go.iadd dX12_tight_53 ?_
        refine Go.istore_n [(0, .ref κ.o), (1, .int (x1 + (v5 - v3))), (2, .int x2), (3, .int x3), (4, .int v3)] dX12_tight_54 (by decide) rfl ?_
        refine Go.aload_n 0 dX12_tight_55 rfl ?_
        refine Go.iload_n 2 dX12_tight_56 rfl ?_
        refine Go.iload_n 3 dX12_tight_57 rfl ?_
        refine Go.iconst 1 dX12_tight_58 (by decide) ?_
        refine Go.iload 4 dX12_tight_59 rfl ?_
        refine GM.callvu (rest := []) [.int x2, .int x3, .int 1, .int v3] dX12_tight_61 ck_letEntry ci_letEntry (rt_letEntry _ _ _ _) rfl rfl (Nat.le_of_ble_eq_true rfl) (Nat.le_of_ble_eq_true rfl) (Nat.le_of_ble_eq_true rfl) h (fun S6 h => ?_)
        refine Go.iinc (w := 1) 3 [(0, .ref κ.o), (1, .int (x1 + (v5 - v3))), (2, .int x2), (3, .int (x3 + 1)), (4, .int v3)] dX12_tight_64 rfl (by decide) (by decide) rfl ?_
        refine Go.goto 17 dX12_tight_67 (by decide) ?_
        refine Go.sub [0, 1, 2, 3] rfl ?_
        exact ih _ _ _ _ h
set_option maxRecDepth 20000 in
theorem rs_tight_8 {l : Launch} {κ : KMt} {Z : Int32 × MS} (n : Nat) : ∀ (x1 : Int32) (x2 : Int32) (S : MS), r_tight_8 n x1 x2 S = some Z → Go l (EM κ) RX12 cX12_tight 5 (some .int) 7 169 0 0 (some (.int Z.1)) Z.2 8 [(0, .ref κ.o), (1, .int x1), (2, .int x2)] [] S := by
  induction n with
  | zero => intro x1 x2 S h; rw [r_tight_8] at h; cases h
  | succ n ih =>
    intro x1 x2 S h
    rw [r_tight_8] at h
    refine Go.iload_n 2 dX12_tight_8 rfl ?_
    refine Go.sipush 784 dX12_tight_9 (by decide) ?_
    refine Go.icmp_ge 76 dX12_tight_12 (by decide) h (fun h => ?_) (fun h => ?_)
    · refine Go.iload_n 1 dX12_tight_76 rfl ?_
      cases h
      exact Go.iret dX12_tight_77 rfl
    · refine Go.iconst 0 dX12_tight_15 (by decide) ?_
      refine Go.istore_n [(0, .ref κ.o), (1, .int x1), (2, .int x2), (3, .int 0)] dX12_tight_16 (by decide) rfl ?_
      exact rs_tight_17 _ ih _ _ _ _ _ h
set_option maxRecDepth 20000 in
theorem rs_tight {l : Launch} {κ : KMt} {S : MS} {Z : Int32 × MS}  (h : r_tight S  = some Z) : Go l (EM κ) RX12 cX12_tight 5 (some .int) 7 169 0 0 (some (.int Z.1)) Z.2 0 [(0, .ref κ.o)] [] S := by
  unfold r_tight at h
  refine Go.aload_n 0 dX12_tight_0 rfl ?_
  refine GM.callvu (rest := []) [] dX12_tight_1 ck_keep ci_keep (rt_keep ) rfl rfl (Nat.le_of_ble_eq_true rfl) (Nat.le_of_ble_eq_true rfl) (Nat.le_of_ble_eq_true rfl) h (fun S7 h => ?_)
  refine Go.iconst 0 dX12_tight_4 (by decide) ?_
  refine Go.istore_n [(0, .ref κ.o), (1, .int 0)] dX12_tight_5 (by decide) rfl ?_
  refine Go.iconst 0 dX12_tight_6 (by decide) ?_
  refine Go.istore_n [(0, .ref κ.o), (1, .int 0), (2, .int 0)] dX12_tight_7 (by decide) rfl ?_
  exact rs_tight_8 _ _ _ _ h
set_option maxRecDepth 20000 in
theorem rt_tight {l : Launch} {κ : KMt} {S : MS}  : ∀ Z, r_tight S  = some Z → MtM l κ yX12_tight cX12_tight 5 (some .int) 7 169 [.ref κ.o] S (some (.int Z.1)) Z.2 := fun Z h => MtM.of (by decide +kernel) rfl (Nat.le_of_ble_eq_true rfl) ⟨rfl, trivial⟩ (rs_tight  h)
/-! leaves -/
def r_leaves_34 (S : MS) (k4 : Int32 → Int32 → Option (Int32)) (x2 : Int32) (y0 : Int32) (y1 : Int32) : Option (Int32) := k4 (y0 + y1) (x2 + 1)
def r_leaves_33 (S : MS) (k4 : Int32 → Int32 → Option (Int32)) (x2 : Int32) (y0 : Int32) : Option (Int32) := r_leaves_34 S k4 x2 y0 0
def r_leaves_4 (S : MS)  : Nat → Int32 → Int32 → Option (Int32)
  | 0, _, _ => none
  | n + 1, x1, x2 => if 784 ≤ x2 then some x1 else (r_countOf S x2).bind (fun v1 => if v1 = (-1) then r_leaves_33 S (r_leaves_4 S n) x2 x1 else (r_isLeaf S x2).bind (fun v2 => if v2 = 0 then r_leaves_33 S (r_leaves_4 S n) x2 x1 else r_leaves_34 S (r_leaves_4 S n) x2 x1 1))
def r_leaves (S : MS)  : Option (Int32) := r_leaves_4 S FU 0 0
set_option maxRecDepth 20000 in
theorem rs_leaves_34 {l : Launch} {κ : KMt} {S : MS} {Z : Int32} (k4 : Int32 → Int32 → Option (Int32)) (h4 : ∀ (x1 : Int32) (x2 : Int32), k4 x1 x2 = some Z → Go l (EM κ) RX12 cX12_leaves 3 (some .int) 2 43 0 0 (some (.int Z)) S 4 [(0, .ref κ.o), (1, .int x1), (2, .int x2)] [] S) (x2 : Int32) (y0 : Int32) (y1 : Int32) (h : r_leaves_34 S k4 x2 y0 y1 = some Z) : Go l (EM κ) RX12 cX12_leaves 3 (some .int) 2 43 0 0 (some (.int Z)) S 34 [(0, .ref κ.o), (2, .int x2)] [.int y1, .int y0] S := by
  unfold r_leaves_34 at h
  refine Go.iadd dX12_leaves_34 ?_
  refine Go.istore_n [(0, .ref κ.o), (1, .int (y0 + y1)), (2, .int x2)] dX12_leaves_35 (by decide) rfl ?_
  refine Go.iinc (w := 1) 2 [(0, .ref κ.o), (1, .int (y0 + y1)), (2, .int (x2 + 1))] dX12_leaves_36 rfl (by decide) (by decide) rfl ?_
  refine Go.goto 4 dX12_leaves_39 (by decide) ?_
  exact h4 _ _ h
set_option maxRecDepth 20000 in
theorem rs_leaves_33 {l : Launch} {κ : KMt} {S : MS} {Z : Int32} (k4 : Int32 → Int32 → Option (Int32)) (h4 : ∀ (x1 : Int32) (x2 : Int32), k4 x1 x2 = some Z → Go l (EM κ) RX12 cX12_leaves 3 (some .int) 2 43 0 0 (some (.int Z)) S 4 [(0, .ref κ.o), (1, .int x1), (2, .int x2)] [] S) (x2 : Int32) (y0 : Int32) (h : r_leaves_33 S k4 x2 y0 = some Z) : Go l (EM κ) RX12 cX12_leaves 3 (some .int) 2 43 0 0 (some (.int Z)) S 33 [(0, .ref κ.o), (2, .int x2)] [.int y0] S := by
  unfold r_leaves_33 at h
  refine Go.iconst 0 dX12_leaves_33 (by decide) ?_
  exact rs_leaves_34 _ h4 _ _ _ h
set_option maxRecDepth 20000 in
theorem rs_leaves_4 {l : Launch} {κ : KMt} {S : MS} {Z : Int32} (n : Nat) : ∀ (x1 : Int32) (x2 : Int32), r_leaves_4 S n x1 x2 = some Z → Go l (EM κ) RX12 cX12_leaves 3 (some .int) 2 43 0 0 (some (.int Z)) S 4 [(0, .ref κ.o), (1, .int x1), (2, .int x2)] [] S := by
  induction n with
  | zero => intro x1 x2 h; rw [r_leaves_4] at h; cases h
  | succ n ih =>
    intro x1 x2 h
    rw [r_leaves_4] at h
    refine Go.iload_n 2 dX12_leaves_4 rfl ?_
    refine Go.sipush 784 dX12_leaves_5 (by decide) ?_
    refine Go.icmp_ge 42 dX12_leaves_8 (by decide) h (fun h => ?_) (fun h => ?_)
    · refine Go.iload_n 1 dX12_leaves_42 rfl ?_
      cases h
      exact Go.iret dX12_leaves_43 rfl
    · refine Go.iload_n 1 dX12_leaves_11 rfl ?_
      refine Go.aload_n 0 dX12_leaves_12 rfl ?_
      refine Go.iload_n 2 dX12_leaves_13 rfl ?_
      refine GM.callvr (rest := [.int x1]) [.int x2] dX12_leaves_14 ck_countOf ci_countOf (rt_countOf _) rfl rfl (Nat.le_of_ble_eq_true rfl) (Nat.le_of_ble_eq_true rfl) (Nat.le_of_ble_eq_true rfl) h (fun v1 h => ?_)
      refine Go.iconst (-1) dX12_leaves_17 (by decide) ?_
      refine Go.icmp_eq 33 dX12_leaves_18 (by decide) h (fun h => ?_) (fun h => ?_)
      · refine Go.sub [0, 2] rfl ?_
        exact rs_leaves_33 _ ih _ _ h
      · refine Go.aload_n 0 dX12_leaves_21 rfl ?_
        refine Go.iload_n 2 dX12_leaves_22 rfl ?_
        refine GM.callvr (rest := [.int x1]) [.int x2] dX12_leaves_23 ck_isLeaf ci_isLeaf (rt_isLeaf _) rfl rfl (Nat.le_of_ble_eq_true rfl) (Nat.le_of_ble_eq_true rfl) (Nat.le_of_ble_eq_true rfl) h (fun v2 h => ?_)
        refine Go.if_eq 33 dX12_leaves_26 (by decide) h (fun h => ?_) (fun h => ?_)
        · refine Go.sub [0, 2] rfl ?_
          exact rs_leaves_33 _ ih _ _ h
        · refine Go.iconst 1 dX12_leaves_29 (by decide) ?_
          refine Go.goto 34 dX12_leaves_30 (by decide) ?_
          refine Go.sub [0, 2] rfl ?_
          exact rs_leaves_34 _ ih _ _ _ h
set_option maxRecDepth 20000 in
theorem rs_leaves {l : Launch} {κ : KMt} {S : MS} {Z : Int32}  (h : r_leaves S  = some Z) : Go l (EM κ) RX12 cX12_leaves 3 (some .int) 2 43 0 0 (some (.int Z)) S 0 [(0, .ref κ.o)] [] S := by
  unfold r_leaves at h
  refine Go.iconst 0 dX12_leaves_0 (by decide) ?_
  refine Go.istore_n [(0, .ref κ.o), (1, .int 0)] dX12_leaves_1 (by decide) rfl ?_
  refine Go.iconst 0 dX12_leaves_2 (by decide) ?_
  refine Go.istore_n [(0, .ref κ.o), (1, .int 0), (2, .int 0)] dX12_leaves_3 (by decide) rfl ?_
  exact rs_leaves_4 _ _ _ h
set_option maxRecDepth 20000 in
theorem rt_leaves {l : Launch} {κ : KMt} {S : MS}  : ∀ Z, r_leaves S  = some Z → MtM l κ yX12_leaves cX12_leaves 3 (some .int) 2 43 [.ref κ.o] S (some (.int Z)) S := fun Z h => MtM.of (by decide +kernel) rfl (Nat.le_of_ble_eq_true rfl) ⟨rfl, trivial⟩ (rs_leaves  h)
/-! heightOf -/
def r_heightOf_9 (S : MS)  : Nat → Int32 → Int32 → Option (Int32)
  | 0, _, _ => none
  | n + 1, x1, x2 => (r_isLeaf S x2).bind (fun v1 => if v1 = 0 then (r_entryOf S x2 0 3).bind (fun v2 => r_heightOf_9 S n (x1 + 1) v2) else some x1)
def r_heightOf (S : MS)  : Option (Int32) := (rd S 0 2).bind (fun v3 => r_heightOf_9 S FU 1 v3)
set_option maxRecDepth 20000 in
theorem rs_heightOf_9 {l : Launch} {κ : KMt} {S : MS} {Z : Int32} (n : Nat) : ∀ (x1 : Int32) (x2 : Int32), r_heightOf_9 S n x1 x2 = some Z → Go l (EM κ) RX12 cX12_heightOf 3 (some .int) 2 45 0 0 (some (.int Z)) S 9 [(0, .ref κ.o), (1, .int x1), (2, .int x2)] [] S := by
  induction n with
  | zero => intro x1 x2 h; rw [r_heightOf_9] at h; cases h
  | succ n ih =>
    intro x1 x2 h
    rw [r_heightOf_9] at h
    refine Go.aload_n 0 dX12_heightOf_9 rfl ?_
    refine Go.iload_n 2 dX12_heightOf_10 rfl ?_
    refine GM.callvr (rest := []) [.int x2] dX12_heightOf_11 ck_isLeaf ci_isLeaf (rt_isLeaf _) rfl rfl (Nat.le_of_ble_eq_true rfl) (Nat.le_of_ble_eq_true rfl) (Nat.le_of_ble_eq_true rfl) h (fun v1 h => ?_)
    refine Go.if_ne 31 dX12_heightOf_14 (by decide) h (fun h => ?_) (fun h => ?_)
    · refine Go.iload_n 1 dX12_heightOf_31 rfl ?_
      cases h
      exact Go.iret dX12_heightOf_32 rfl
    · refine Go.iinc (w := 1) 1 [(0, .ref κ.o), (1, .int (x1 + 1)), (2, .int x2)] dX12_heightOf_17 rfl (by decide) (by decide) rfl ?_
      refine Go.aload_n 0 dX12_heightOf_20 rfl ?_
      refine Go.iload_n 2 dX12_heightOf_21 rfl ?_
      refine Go.iconst 0 dX12_heightOf_22 (by decide) ?_
      refine Go.iconst 3 dX12_heightOf_23 (by decide) ?_
      refine GM.callvr (rest := []) [.int x2, .int 0, .int 3] dX12_heightOf_24 ck_entryOf ci_entryOf (rt_entryOf _ _ _) rfl rfl (Nat.le_of_ble_eq_true rfl) (Nat.le_of_ble_eq_true rfl) (Nat.le_of_ble_eq_true rfl) h (fun v2 h => ?_)
      refine Go.istore_n [(0, .ref κ.o), (1, .int (x1 + 1)), (2, .int v2)] dX12_heightOf_27 (by decide) rfl ?_
      refine Go.goto 9 dX12_heightOf_28 (by decide) ?_
      exact ih _ _ h
set_option maxRecDepth 20000 in
theorem rs_heightOf {l : Launch} {κ : KMt} {S : MS} {Z : Int32}  (h : r_heightOf S  = some Z) : Go l (EM κ) RX12 cX12_heightOf 3 (some .int) 2 45 0 0 (some (.int Z)) S 0 [(0, .ref κ.o)] [] S := by
  unfold r_heightOf at h
  refine Go.iconst 1 dX12_heightOf_0 (by decide) ?_
  refine Go.istore_n [(0, .ref κ.o), (1, .int 1)] dX12_heightOf_1 (by decide) rfl ?_
  refine Go.aload_n 0 dX12_heightOf_2 rfl ?_
  refine GM.geta 0 0 (by decide) rfl fl_a rfl dX12_heightOf_3 ?_
  refine Go.iconst 2 dX12_heightOf_6 (by decide) ?_
  refine GM.iald 0 (by decide) rfl dX12_heightOf_7 h (fun v3 h => ?_)
  refine Go.istore_n [(0, .ref κ.o), (1, .int 1), (2, .int v3)] dX12_heightOf_8 (by decide) rfl ?_
  exact rs_heightOf_9 _ _ _ h
set_option maxRecDepth 20000 in
theorem rt_heightOf {l : Launch} {κ : KMt} {S : MS}  : ∀ Z, r_heightOf S  = some Z → MtM l κ yX12_heightOf cX12_heightOf 3 (some .int) 2 45 [.ref κ.o] S (some (.int Z)) S := fun Z h => MtM.of (by decide +kernel) rfl (Nat.le_of_ble_eq_true rfl) ⟨rfl, trivial⟩ (rs_heightOf  h)
/-! sumOf -/
def r_sumOf_42 (S : MS) (k4 : Int32 → Int32 → Int32 → Option (Int32)) (k14 : Int32 → Int32 → Int32 → Int32 → Option (Int32)) (x1 : Int32) (x3 : Int32) (x4 : Int32) (y0 : Int32) (y1 : Int32) : Option (Int32) := k14 x1 (y0 + y1) x3 (x4 + 1)
def r_sumOf_14 (S : MS) (k4 : Int32 → Int32 → Int32 → Option (Int32)) : Nat → Int32 → Int32 → Int32 → Int32 → Option (Int32)
  | 0, _, _, _, _ => none
  | n + 1, x1, x2, x3, x4 => (r_countOf S x3).bind (fun v1 => if v1 ≤ x4 then k4 x1 x2 (x3 + 1) else if x1 = (-1) then r_sumOf_42 S k4 (r_sumOf_14 S k4 n) x1 x3 x4 x2 1 else (r_entryOf S x3 x4 x1).bind (fun v2 => r_sumOf_42 S k4 (r_sumOf_14 S k4 n) x1 x3 x4 x2 v2))
def r_sumOf_4 (S : MS)  : Nat → Int32 → Int32 → Int32 → Option (Int32)
  | 0, _, _, _ => none
  | n + 1, x1, x2, x3 => if 784 ≤ x3 then some x2 else r_sumOf_14 S (r_sumOf_4 S n) FU x1 x2 x3 0
def r_sumOf (S : MS) (x1 : Int32) : Option (Int32) := r_sumOf_4 S FU x1 0 0
set_option maxRecDepth 20000 in
theorem rs_sumOf_42 {l : Launch} {κ : KMt} {S : MS} {Z : Int32} (k4 : Int32 → Int32 → Int32 → Option (Int32)) (h4 : ∀ (x1 : Int32) (x2 : Int32) (x3 : Int32), k4 x1 x2 x3 = some Z → Go l (EM κ) RX12 cX12_sumOf 5 (some .int) 2 45 0 0 (some (.int Z)) S 4 [(0, .ref κ.o), (1, .int x1), (2, .int x2), (3, .int x3)] [] S) (k14 : Int32 → Int32 → Int32 → Int32 → Option (Int32)) (h14 : ∀ (x1 : Int32) (x2 : Int32) (x3 : Int32) (x4 : Int32), k14 x1 x2 x3 x4 = some Z → Go l (EM κ) RX12 cX12_sumOf 5 (some .int) 2 45 0 0 (some (.int Z)) S 14 [(0, .ref κ.o), (1, .int x1), (2, .int x2), (3, .int x3), (4, .int x4)] [] S) (x1 : Int32) (x3 : Int32) (x4 : Int32) (y0 : Int32) (y1 : Int32) (h : r_sumOf_42 S k4 k14 x1 x3 x4 y0 y1 = some Z) : Go l (EM κ) RX12 cX12_sumOf 5 (some .int) 2 45 0 0 (some (.int Z)) S 42 [(0, .ref κ.o), (1, .int x1), (3, .int x3), (4, .int x4)] [.int y1, .int y0] S := by
  unfold r_sumOf_42 at h
  refine Go.iadd dX12_sumOf_42 ?_
  refine Go.istore_n [(0, .ref κ.o), (1, .int x1), (2, .int (y0 + y1)), (3, .int x3), (4, .int x4)] dX12_sumOf_43 (by decide) rfl ?_
  refine Go.iinc (w := 1) 4 [(0, .ref κ.o), (1, .int x1), (2, .int (y0 + y1)), (3, .int x3), (4, .int (x4 + 1))] dX12_sumOf_44 rfl (by decide) (by decide) rfl ?_
  refine Go.goto 14 dX12_sumOf_47 (by decide) ?_
  exact h14 _ _ _ _ h
set_option maxRecDepth 20000 in
theorem rs_sumOf_14 {l : Launch} {κ : KMt} {S : MS} {Z : Int32} (k4 : Int32 → Int32 → Int32 → Option (Int32)) (h4 : ∀ (x1 : Int32) (x2 : Int32) (x3 : Int32), k4 x1 x2 x3 = some Z → Go l (EM κ) RX12 cX12_sumOf 5 (some .int) 2 45 0 0 (some (.int Z)) S 4 [(0, .ref κ.o), (1, .int x1), (2, .int x2), (3, .int x3)] [] S) (n : Nat) : ∀ (x1 : Int32) (x2 : Int32) (x3 : Int32) (x4 : Int32), r_sumOf_14 S k4 n x1 x2 x3 x4 = some Z → Go l (EM κ) RX12 cX12_sumOf 5 (some .int) 2 45 0 0 (some (.int Z)) S 14 [(0, .ref κ.o), (1, .int x1), (2, .int x2), (3, .int x3), (4, .int x4)] [] S := by
  induction n with
  | zero => intro x1 x2 x3 x4 h; rw [r_sumOf_14] at h; cases h
  | succ n ih =>
    intro x1 x2 x3 x4 h
    rw [r_sumOf_14] at h
    refine Go.iload 4 dX12_sumOf_14 rfl ?_
    refine Go.aload_n 0 dX12_sumOf_16 rfl ?_
    refine Go.iload_n 3 dX12_sumOf_17 rfl ?_
    refine GM.callvr (rest := [.int x4]) [.int x3] dX12_sumOf_18 ck_countOf ci_countOf (rt_countOf _) rfl rfl (Nat.le_of_ble_eq_true rfl) (Nat.le_of_ble_eq_true rfl) (Nat.le_of_ble_eq_true rfl) h (fun v1 h => ?_)
    refine Go.icmp_ge 50 dX12_sumOf_21 (by decide) h (fun h => ?_) (fun h => ?_)
    · refine Go.iinc (w := 1) 3 [(0, .ref κ.o), (1, .int x1), (2, .int x2), (3, .int (x3 + 1)), (4, .int x4)] dX12_sumOf_50 rfl (by decide) (by decide) rfl ?_
      refine Go.goto 4 dX12_sumOf_53 (by decide) ?_
      refine Go.sub [0, 1, 2, 3] rfl ?_
      exact h4 _ _ _ h
    · refine Go.iload_n 2 dX12_sumOf_24 rfl ?_
      refine Go.iload_n 1 dX12_sumOf_25 rfl ?_
      refine Go.iconst (-1) dX12_sumOf_26 (by decide) ?_
      refine Go.icmp_ne 34 dX12_sumOf_27 (by decide) h (fun h => ?_) (fun h => ?_)
      · refine Go.aload_n 0 dX12_sumOf_34 rfl ?_
        refine Go.iload_n 3 dX12_sumOf_35 rfl ?_
        refine Go.iload 4 dX12_sumOf_36 rfl ?_
        refine Go.iload_n 1 dX12_sumOf_38 rfl ?_
        refine GM.callvr (rest := [.int x2]) [.int x3, .int x4, .int x1] dX12_sumOf_39 ck_entryOf ci_entryOf (rt_entryOf _ _ _) rfl rfl (Nat.le_of_ble_eq_true rfl) (Nat.le_of_ble_eq_true rfl) (Nat.le_of_ble_eq_true rfl) h (fun v2 h => ?_)
        refine Go.sub [0, 1, 3, 4] rfl ?_
        exact rs_sumOf_42 _ h4 _ ih _ _ _ _ _ h
      · refine Go.iconst 1 dX12_sumOf_30 (by decide) ?_
        refine Go.goto 42 dX12_sumOf_31 (by decide) ?_
        refine Go.sub [0, 1, 3, 4] rfl ?_
        exact rs_sumOf_42 _ h4 _ ih _ _ _ _ _ h
set_option maxRecDepth 20000 in
theorem rs_sumOf_4 {l : Launch} {κ : KMt} {S : MS} {Z : Int32} (n : Nat) : ∀ (x1 : Int32) (x2 : Int32) (x3 : Int32), r_sumOf_4 S n x1 x2 x3 = some Z → Go l (EM κ) RX12 cX12_sumOf 5 (some .int) 2 45 0 0 (some (.int Z)) S 4 [(0, .ref κ.o), (1, .int x1), (2, .int x2), (3, .int x3)] [] S := by
  induction n with
  | zero => intro x1 x2 x3 h; rw [r_sumOf_4] at h; cases h
  | succ n ih =>
    intro x1 x2 x3 h
    rw [r_sumOf_4] at h
    refine Go.iload_n 3 dX12_sumOf_4 rfl ?_
    refine Go.sipush 784 dX12_sumOf_5 (by decide) ?_
    refine Go.icmp_ge 56 dX12_sumOf_8 (by decide) h (fun h => ?_) (fun h => ?_)
    · refine Go.iload_n 2 dX12_sumOf_56 rfl ?_
      cases h
      exact Go.iret dX12_sumOf_57 rfl
    · refine Go.iconst 0 dX12_sumOf_11 (by decide) ?_
      refine Go.istore [(0, .ref κ.o), (1, .int x1), (2, .int x2), (3, .int x3), (4, .int 0)] dX12_sumOf_12 (by decide) rfl ?_
      exact rs_sumOf_14 _ ih _ _ _ _ _ h
set_option maxRecDepth 20000 in
theorem rs_sumOf {l : Launch} {κ : KMt} {S : MS} {Z : Int32} (x1 : Int32) (h : r_sumOf S x1 = some Z) : Go l (EM κ) RX12 cX12_sumOf 5 (some .int) 2 45 0 0 (some (.int Z)) S 0 [(0, .ref κ.o), (1, .int x1)] [] S := by
  unfold r_sumOf at h
  refine Go.iconst 0 dX12_sumOf_0 (by decide) ?_
  refine Go.istore_n [(0, .ref κ.o), (1, .int x1), (2, .int 0)] dX12_sumOf_1 (by decide) rfl ?_
  refine Go.iconst 0 dX12_sumOf_2 (by decide) ?_
  refine Go.istore_n [(0, .ref κ.o), (1, .int x1), (2, .int 0), (3, .int 0)] dX12_sumOf_3 (by decide) rfl ?_
  exact rs_sumOf_4 _ _ _ _ h
set_option maxRecDepth 20000 in
theorem rt_sumOf {l : Launch} {κ : KMt} {S : MS} (x1 : Int32) : ∀ Z, r_sumOf S x1 = some Z → MtM l κ yX12_sumOf cX12_sumOf 5 (some .int) 2 45 [.ref κ.o, .int x1] S (some (.int Z)) S := fun Z h => MtM.of (by decide +kernel) rfl (Nat.le_of_ble_eq_true rfl) ⟨rfl, rfl, trivial⟩ (rs_sumOf x1 h)
/-! overlaps -/
def r_overlaps_103 (k4 : Int32 → Int32 → MS → Option (Int32 × MS)) (x1 : Int32) (x2 : Int32) (S : MS) : Option (Int32 × MS) := k4 x1 (x2 + 1) S
def r_overlaps_89 (k4 : Int32 → Int32 → MS → Option (Int32 × MS)) (k13 : Int32 → Int32 → Int32 → MS → Option (Int32 × MS)) (k35 : Int32 → Int32 → Int32 → Int32 → MS → Option (Int32 × MS)) (x2 : Int32) (x3 : Int32) (x4 : Int32) (y0 : Int32) (y1 : Int32) (S : MS) : Option (Int32 × MS) := k35 (y0 + y1) x2 x3 (x4 + 1) S
def r_overlaps_35 (k4 : Int32 → Int32 → MS → Option (Int32 × MS)) (k13 : Int32 → Int32 → Int32 → MS → Option (Int32 × MS)) : Nat → Int32 → Int32 → Int32 → Int32 → MS → Option (Int32 × MS)
  | 0, _, _, _, _, _ => none
  | n + 1, x1, x2, x3, x4, S => (r_countOf S x2).bind (fun v1 => if v1 ≤ x4 then k13 x1 x2 (x3 + 1) S else (r_entryOf S x2 x3 0).bind (fun v2 => (r_entryOf S x2 x4 0).bind (fun v3 => bd2 (r_farOf S v2 v3) (fun v4 S5 => (r_entryOf S5 x2 x3 1).bind (fun v6 => (r_entryOf S5 x2 x4 1).bind (fun v7 => if (v6 + v7) < v4 then r_overlaps_89 k4 k13 (r_overlaps_35 k4 k13 n) x2 x3 x4 x1 0 S5 else r_overlaps_89 k4 k13 (r_overlaps_35 k4 k13 n) x2 x3 x4 x1 1 S5))))))
def r_overlaps_13 (k4 : Int32 → Int32 → MS → Option (Int32 × MS)) : Nat → Int32 → Int32 → Int32 → MS → Option (Int32 × MS)
  | 0, _, _, _, _ => none
  | n + 1, x1, x2, x3, S => (r_countOf S x2).bind (fun v8 => if v8 ≤ x3 then r_overlaps_103 k4 x1 x2 S else (r_isLeaf S x2).bind (fun v9 => if v9 = 0 then r_overlaps_35 k4 (r_overlaps_13 k4 n) FU x1 x2 x3 (x3 + 1) S else r_overlaps_103 k4 x1 x2 S))
def r_overlaps_4  : Nat → Int32 → Int32 → MS → Option (Int32 × MS)
  | 0, _, _, _ => none
  | n + 1, x1, x2, S => if 784 ≤ x2 then some (x1, S) else r_overlaps_13 (r_overlaps_4 n) FU x1 x2 0 S
def r_overlaps (S : MS)  : Option (Int32 × MS) := r_overlaps_4 FU 0 0 S
set_option maxRecDepth 20000 in
theorem rs_overlaps_103 {l : Launch} {κ : KMt} {Z : Int32 × MS} (k4 : Int32 → Int32 → MS → Option (Int32 × MS)) (h4 : ∀ (x1 : Int32) (x2 : Int32) (S : MS), k4 x1 x2 S = some Z → Go l (EM κ) RX12 cX12_overlaps 5 (some .int) 6 143 0 0 (some (.int Z.1)) Z.2 4 [(0, .ref κ.o), (1, .int x1), (2, .int x2)] [] S) (x1 : Int32) (x2 : Int32) (S : MS) (h : r_overlaps_103 k4 x1 x2 S = some Z) : Go l (EM κ) RX12 cX12_overlaps 5 (some .int) 6 143 0 0 (some (.int Z.1)) Z.2 103 [(0, .ref κ.o), (1, .int x1), (2, .int x2)] [] S := by
  unfold r_overlaps_103 at h
  refine Go.iinc (w := 1) 2 [(0, .ref κ.o), (1, .int x1), (2, .int (x2 + 1))] dX12_overlaps_103 rfl (by decide) (by decide) rfl ?_
  refine Go.goto 4 dX12_overlaps_106 (by decide) ?_
  exact h4 _ _ _ h
set_option maxRecDepth 20000 in
theorem rs_overlaps_89 {l : Launch} {κ : KMt} {Z : Int32 × MS} (k4 : Int32 → Int32 → MS → Option (Int32 × MS)) (h4 : ∀ (x1 : Int32) (x2 : Int32) (S : MS), k4 x1 x2 S = some Z → Go l (EM κ) RX12 cX12_overlaps 5 (some .int) 6 143 0 0 (some (.int Z.1)) Z.2 4 [(0, .ref κ.o), (1, .int x1), (2, .int x2)] [] S) (k13 : Int32 → Int32 → Int32 → MS → Option (Int32 × MS)) (h13 : ∀ (x1 : Int32) (x2 : Int32) (x3 : Int32) (S : MS), k13 x1 x2 x3 S = some Z → Go l (EM κ) RX12 cX12_overlaps 5 (some .int) 6 143 0 0 (some (.int Z.1)) Z.2 13 [(0, .ref κ.o), (1, .int x1), (2, .int x2), (3, .int x3)] [] S) (k35 : Int32 → Int32 → Int32 → Int32 → MS → Option (Int32 × MS)) (h35 : ∀ (x1 : Int32) (x2 : Int32) (x3 : Int32) (x4 : Int32) (S : MS), k35 x1 x2 x3 x4 S = some Z → Go l (EM κ) RX12 cX12_overlaps 5 (some .int) 6 143 0 0 (some (.int Z.1)) Z.2 35 [(0, .ref κ.o), (1, .int x1), (2, .int x2), (3, .int x3), (4, .int x4)] [] S) (x2 : Int32) (x3 : Int32) (x4 : Int32) (y0 : Int32) (y1 : Int32) (S : MS) (h : r_overlaps_89 k4 k13 k35 x2 x3 x4 y0 y1 S = some Z) : Go l (EM κ) RX12 cX12_overlaps 5 (some .int) 6 143 0 0 (some (.int Z.1)) Z.2 89 [(0, .ref κ.o), (2, .int x2), (3, .int x3), (4, .int x4)] [.int y1, .int y0] S := by
  unfold r_overlaps_89 at h
  refine Go.iadd dX12_overlaps_89 ?_
  refine Go.istore_n [(0, .ref κ.o), (1, .int (y0 + y1)), (2, .int x2), (3, .int x3), (4, .int x4)] dX12_overlaps_90 (by decide) rfl ?_
  refine Go.iinc (w := 1) 4 [(0, .ref κ.o), (1, .int (y0 + y1)), (2, .int x2), (3, .int x3), (4, .int (x4 + 1))] dX12_overlaps_91 rfl (by decide) (by decide) rfl ?_
  refine Go.goto 35 dX12_overlaps_94 (by decide) ?_
  exact h35 _ _ _ _ _ h
set_option maxRecDepth 20000 in
theorem rs_overlaps_35 {l : Launch} {κ : KMt} {Z : Int32 × MS} (k4 : Int32 → Int32 → MS → Option (Int32 × MS)) (h4 : ∀ (x1 : Int32) (x2 : Int32) (S : MS), k4 x1 x2 S = some Z → Go l (EM κ) RX12 cX12_overlaps 5 (some .int) 6 143 0 0 (some (.int Z.1)) Z.2 4 [(0, .ref κ.o), (1, .int x1), (2, .int x2)] [] S) (k13 : Int32 → Int32 → Int32 → MS → Option (Int32 × MS)) (h13 : ∀ (x1 : Int32) (x2 : Int32) (x3 : Int32) (S : MS), k13 x1 x2 x3 S = some Z → Go l (EM κ) RX12 cX12_overlaps 5 (some .int) 6 143 0 0 (some (.int Z.1)) Z.2 13 [(0, .ref κ.o), (1, .int x1), (2, .int x2), (3, .int x3)] [] S) (n : Nat) : ∀ (x1 : Int32) (x2 : Int32) (x3 : Int32) (x4 : Int32) (S : MS), r_overlaps_35 k4 k13 n x1 x2 x3 x4 S = some Z → Go l (EM κ) RX12 cX12_overlaps 5 (some .int) 6 143 0 0 (some (.int Z.1)) Z.2 35 [(0, .ref κ.o), (1, .int x1), (2, .int x2), (3, .int x3), (4, .int x4)] [] S := by
  induction n with
  | zero => intro x1 x2 x3 x4 S h; rw [r_overlaps_35] at h; cases h
  | succ n ih =>
    intro x1 x2 x3 x4 S h
    rw [r_overlaps_35] at h
    refine Go.iload 4 dX12_overlaps_35 rfl ?_
    refine Go.aload_n 0 dX12_overlaps_37 rfl ?_
    refine Go.iload_n 2 dX12_overlaps_38 rfl ?_
    refine GM.callvr (rest := [.int x4]) [.int x2] dX12_overlaps_39 ck_countOf ci_countOf (rt_countOf _) rfl rfl (Nat.le_of_ble_eq_true rfl) (Nat.le_of_ble_eq_true rfl) (Nat.le_of_ble_eq_true rfl) h (fun v1 h => ?_)
    refine Go.icmp_ge 97 dX12_overlaps_42 (by decide) h (fun h => ?_) (fun h => ?_)
    · refine Go.iinc (w := 1) 3 [(0, .ref κ.o), (1, .int x1), (2, .int x2), (3, .int (x3 + 1)), (4, .int x4)] dX12_overlaps_97 rfl (by decide) (by decide) rfl ?_
      refine Go.goto 13 dX12_overlaps_100 (by decide) ?_
      refine Go.sub [0, 1, 2, 3] rfl ?_
      exact h13 _ _ _ _ h
    · refine Go.iload_n 1 dX12_overlaps_45 rfl ?_
      refine Go.aload_n 0 dX12_overlaps_46 rfl ?_
      refine Go.aload_n 0 dX12_overlaps_47 rfl ?_
      refine Go.iload_n 2 dX12_overlaps_48 rfl ?_
      refine Go.iload_n 3 dX12_overlaps_49 rfl ?_
      refine Go.iconst 0 dX12_overlaps_50 (by decide) ?_
      refine GM.callvr (rest := [.ref κ.o, .int x1]) [.int x2, .int x3, .int 0] dX12_overlaps_51 ck_entryOf ci_entryOf (rt_entryOf _ _ _) rfl rfl (Nat.le_of_ble_eq_true rfl) (Nat.le_of_ble_eq_true rfl) (Nat.le_of_ble_eq_true rfl) h (fun v2 h => ?_)
      refine Go.aload_n 0 dX12_overlaps_54 rfl ?_
      refine Go.iload_n 2 dX12_overlaps_55 rfl ?_
      refine Go.iload 4 dX12_overlaps_56 rfl ?_
      refine Go.iconst 0 dX12_overlaps_58 (by decide) ?_
      refine GM.callvr (rest := [.int v2, .ref κ.o, .int x1]) [.int x2, .int x4, .int 0] dX12_overlaps_59 ck_entryOf ci_entryOf (rt_entryOf _ _ _) rfl rfl (Nat.le_of_ble_eq_true rfl) (Nat.le_of_ble_eq_true rfl) (Nat.le_of_ble_eq_true rfl) h (fun v3 h => ?_)
      refine GM.callvw (rest := [.int x1]) [.int v2, .int v3] dX12_overlaps_62 ck_farOf ci_farOf (rt_farOf _ _) rfl rfl (Nat.le_of_ble_eq_true rfl) (Nat.le_of_ble_eq_true rfl) (Nat.le_of_ble_eq_true rfl) h (fun v4 S5 h => ?_)
      refine Go.aload_n 0 dX12_overlaps_65 rfl ?_
      refine Go.iload_n 2 dX12_overlaps_66 rfl ?_
      refine Go.iload_n 3 dX12_overlaps_67 rfl ?_
      refine Go.iconst 1 dX12_overlaps_68 (by decide) ?_
      refine GM.callvr (rest := [.int v4, .int x1]) [.int x2, .int x3, .int 1] dX12_overlaps_69 ck_entryOf ci_entryOf (rt_entryOf _ _ _) rfl rfl (Nat.le_of_ble_eq_true rfl) (Nat.le_of_ble_eq_true rfl) (Nat.le_of_ble_eq_true rfl) h (fun v6 h => ?_)
      refine Go.aload_n 0 dX12_overlaps_72 rfl ?_
      refine Go.iload_n 2 dX12_overlaps_73 rfl ?_
      refine Go.iload 4 dX12_overlaps_74 rfl ?_
      refine Go.iconst 1 dX12_overlaps_76 (by decide) ?_
      refine GM.callvr (rest := [.int v6, .int v4, .int x1]) [.int x2, .int x4, .int 1] dX12_overlaps_77 ck_entryOf ci_entryOf (rt_entryOf _ _ _) rfl rfl (Nat.le_of_ble_eq_true rfl) (Nat.le_of_ble_eq_true rfl) (Nat.le_of_ble_eq_true rfl) h (fun v7 h => ?_)
      refine Go.iadd dX12_overlaps_80 ?_
      refine Go.icmp_gt 88 dX12_overlaps_81 (by decide) h (fun h => ?_) (fun h => ?_)
      · refine Go.iconst 0 dX12_overlaps_88 (by decide) ?_
        refine Go.sub [0, 2, 3, 4] rfl ?_
        exact rs_overlaps_89 _ h4 _ h13 _ ih _ _ _ _ _ _ h
      · refine Go.iconst 1 dX12_overlaps_84 (by decide) ?_
        refine Go.goto 89 dX12_overlaps_85 (by decide) ?_
        refine Go.sub [0, 2, 3, 4] rfl ?_
        exact rs_overlaps_89 _ h4 _ h13 _ ih _ _ _ _ _ _ h
set_option maxRecDepth 20000 in
theorem rs_overlaps_13 {l : Launch} {κ : KMt} {Z : Int32 × MS} (k4 : Int32 → Int32 → MS → Option (Int32 × MS)) (h4 : ∀ (x1 : Int32) (x2 : Int32) (S : MS), k4 x1 x2 S = some Z → Go l (EM κ) RX12 cX12_overlaps 5 (some .int) 6 143 0 0 (some (.int Z.1)) Z.2 4 [(0, .ref κ.o), (1, .int x1), (2, .int x2)] [] S) (n : Nat) : ∀ (x1 : Int32) (x2 : Int32) (x3 : Int32) (S : MS), r_overlaps_13 k4 n x1 x2 x3 S = some Z → Go l (EM κ) RX12 cX12_overlaps 5 (some .int) 6 143 0 0 (some (.int Z.1)) Z.2 13 [(0, .ref κ.o), (1, .int x1), (2, .int x2), (3, .int x3)] [] S := by
  induction n with
  | zero => intro x1 x2 x3 S h; rw [r_overlaps_13] at h; cases h
  | succ n ih =>
    intro x1 x2 x3 S h
    rw [r_overlaps_13] at h
    refine Go.iload_n 3 dX12_overlaps_13 rfl ?_
    refine Go.aload_n 0 dX12_overlaps_14 rfl ?_
    refine Go.iload_n 2 dX12_overlaps_15 rfl ?_
    refine GM.callvr (rest := [.int x3]) [.int x2] dX12_overlaps_16 ck_countOf ci_countOf (rt_countOf _) rfl rfl (Nat.le_of_ble_eq_true rfl) (Nat.le_of_ble_eq_true rfl) (Nat.le_of_ble_eq_true rfl) h (fun v8 h => ?_)
    refine Go.icmp_ge 103 dX12_overlaps_19 (by decide) h (fun h => ?_) (fun h => ?_)
    · refine Go.sub [0, 1, 2] rfl ?_
      exact rs_overlaps_103 _ h4 _ _ _ h
    · refine Go.aload_n 0 dX12_overlaps_22 rfl ?_
      refine Go.iload_n 2 dX12_overlaps_23 rfl ?_
      refine GM.callvr (rest := []) [.int x2] dX12_overlaps_24 ck_isLeaf ci_isLeaf (rt_isLeaf _) rfl rfl (Nat.le_of_ble_eq_true rfl) (Nat.le_of_ble_eq_true rfl) (Nat.le_of_ble_eq_true rfl) h (fun v9 h => ?_)
      refine Go.if_ne 103 dX12_overlaps_27 (by decide) h (fun h => ?_) (fun h => ?_)
      · refine Go.sub [0, 1, 2] rfl ?_
        exact rs_overlaps_103 _ h4 _ _ _ h
      · refine Go.iload_n 3 dX12_overlaps_30 rfl ?_
        refine Go.iconst 1 dX12_overlaps_31 (by decide) ?_
        refine Go.iadd dX12_overlaps_32 ?_
        refine Go.istore [(0, .ref κ.o), (1, .int x1), (2, .int x2), (3, .int x3), (4, .int (x3 + 1))] dX12_overlaps_33 (by decide) rfl ?_
        exact rs_overlaps_35 _ h4 _ ih _ _ _ _ _ _ h
set_option maxRecDepth 20000 in
theorem rs_overlaps_4 {l : Launch} {κ : KMt} {Z : Int32 × MS} (n : Nat) : ∀ (x1 : Int32) (x2 : Int32) (S : MS), r_overlaps_4 n x1 x2 S = some Z → Go l (EM κ) RX12 cX12_overlaps 5 (some .int) 6 143 0 0 (some (.int Z.1)) Z.2 4 [(0, .ref κ.o), (1, .int x1), (2, .int x2)] [] S := by
  induction n with
  | zero => intro x1 x2 S h; rw [r_overlaps_4] at h; cases h
  | succ n ih =>
    intro x1 x2 S h
    rw [r_overlaps_4] at h
    refine Go.iload_n 2 dX12_overlaps_4 rfl ?_
    refine Go.sipush 784 dX12_overlaps_5 (by decide) ?_
    refine Go.icmp_ge 109 dX12_overlaps_8 (by decide) h (fun h => ?_) (fun h => ?_)
    · refine Go.iload_n 1 dX12_overlaps_109 rfl ?_
      cases h
      exact Go.iret dX12_overlaps_110 rfl
    · refine Go.iconst 0 dX12_overlaps_11 (by decide) ?_
      refine Go.istore_n [(0, .ref κ.o), (1, .int x1), (2, .int x2), (3, .int 0)] dX12_overlaps_12 (by decide) rfl ?_
      exact rs_overlaps_13 _ ih _ _ _ _ _ h
set_option maxRecDepth 20000 in
theorem rs_overlaps {l : Launch} {κ : KMt} {S : MS} {Z : Int32 × MS}  (h : r_overlaps S  = some Z) : Go l (EM κ) RX12 cX12_overlaps 5 (some .int) 6 143 0 0 (some (.int Z.1)) Z.2 0 [(0, .ref κ.o)] [] S := by
  unfold r_overlaps at h
  refine Go.iconst 0 dX12_overlaps_0 (by decide) ?_
  refine Go.istore_n [(0, .ref κ.o), (1, .int 0)] dX12_overlaps_1 (by decide) rfl ?_
  refine Go.iconst 0 dX12_overlaps_2 (by decide) ?_
  refine Go.istore_n [(0, .ref κ.o), (1, .int 0), (2, .int 0)] dX12_overlaps_3 (by decide) rfl ?_
  exact rs_overlaps_4 _ _ _ _ h
set_option maxRecDepth 20000 in
theorem rt_overlaps {l : Launch} {κ : KMt} {S : MS}  : ∀ Z, r_overlaps S  = some Z → MtM l κ yX12_overlaps cX12_overlaps 5 (some .int) 6 143 [.ref κ.o] S (some (.int Z.1)) Z.2 := fun Z h => MtM.of (by decide +kernel) rfl (Nat.le_of_ble_eq_true rfl) ⟨rfl, trivial⟩ (rs_overlaps  h)
/-! is -/
def r_is (S : MS) (x1 : Int32) : Option (Int32 × MS) := if x1 = 0 then (r_things S ).bind (fun v1 => some (v1, S)) else if x1 = 1 then (r_pages S ).bind (fun v2 => some (v2, S)) else if x1 = 2 then (r_leaves S ).bind (fun v3 => some (v3, S)) else if x1 = 3 then (r_heightOf S ).bind (fun v4 => some (v4, S)) else if x1 = 4 then (rd S 0 3).bind (fun v5 => some (v5, S)) else if x1 = 5 then (rd S 0 4).bind (fun v6 => some (v6, S)) else if x1 = 6 then (rd S 0 5).bind (fun v7 => some (v7, S)) else if x1 = 7 then (r_sumOf S (-1)).bind (fun v8 => some (v8, S)) else if x1 = 8 then bd2 (r_overlaps S ) (fun v9 S10 => some (v9, S10)) else if x1 = 9 then (r_sumOf S 1).bind (fun v11 => some (v11, S)) else some ((-1), S)
set_option maxRecDepth 20000 in
theorem rs_is {l : Launch} {κ : KMt} {S : MS} {Z : Int32 × MS} (x1 : Int32) (h : r_is S x1 = some Z) : Go l (EM κ) RX12 cX12_is 2 (some .int) 7 167 0 0 (some (.int Z.1)) Z.2 0 [(0, .ref κ.o), (1, .int x1)] [] S := by
  unfold r_is at h
  refine Go.iload_n 1 dX12_is_0 rfl ?_
  by_cases cc0 : x1 = 0
  · rw [if_pos cc0] at h
    refine Go.tabIn 56 0 cc0 dX12_is_1 (by decide) (by decide) rfl (by decide) ?_
    refine Go.aload_n 0 dX12_is_56 rfl ?_
    refine GM.callvr (rest := []) [] dX12_is_57 ck_things ci_things (rt_things ) rfl rfl (Nat.le_of_ble_eq_true rfl) (Nat.le_of_ble_eq_true rfl) (Nat.le_of_ble_eq_true rfl) h (fun v1 h => ?_)
    cases h
    exact Go.iret dX12_is_60 rfl
  rw [if_neg cc0] at h
  by_cases cc1 : x1 = 1
  · rw [if_pos cc1] at h
    refine Go.tabIn 61 1 cc1 dX12_is_1 (by decide) (by decide) rfl (by decide) ?_
    refine Go.aload_n 0 dX12_is_61 rfl ?_
    refine GM.callvr (rest := []) [] dX12_is_62 ck_pages ci_pages (rt_pages ) rfl rfl (Nat.le_of_ble_eq_true rfl) (Nat.le_of_ble_eq_true rfl) (Nat.le_of_ble_eq_true rfl) h (fun v2 h => ?_)
    cases h
    exact Go.iret dX12_is_65 rfl
  rw [if_neg cc1] at h
  by_cases cc2 : x1 = 2
  · rw [if_pos cc2] at h
    refine Go.tabIn 66 2 cc2 dX12_is_1 (by decide) (by decide) rfl (by decide) ?_
    refine Go.aload_n 0 dX12_is_66 rfl ?_
    refine GM.callvr (rest := []) [] dX12_is_67 ck_leaves ci_leaves (rt_leaves ) rfl rfl (Nat.le_of_ble_eq_true rfl) (Nat.le_of_ble_eq_true rfl) (Nat.le_of_ble_eq_true rfl) h (fun v3 h => ?_)
    cases h
    exact Go.iret dX12_is_70 rfl
  rw [if_neg cc2] at h
  by_cases cc3 : x1 = 3
  · rw [if_pos cc3] at h
    refine Go.tabIn 71 3 cc3 dX12_is_1 (by decide) (by decide) rfl (by decide) ?_
    refine Go.aload_n 0 dX12_is_71 rfl ?_
    refine GM.callvr (rest := []) [] dX12_is_72 ck_heightOf ci_heightOf (rt_heightOf ) rfl rfl (Nat.le_of_ble_eq_true rfl) (Nat.le_of_ble_eq_true rfl) (Nat.le_of_ble_eq_true rfl) h (fun v4 h => ?_)
    cases h
    exact Go.iret dX12_is_75 rfl
  rw [if_neg cc3] at h
  by_cases cc4 : x1 = 4
  · rw [if_pos cc4] at h
    refine Go.tabIn 76 4 cc4 dX12_is_1 (by decide) (by decide) rfl (by decide) ?_
    refine Go.aload_n 0 dX12_is_76 rfl ?_
    refine GM.geta 0 0 (by decide) rfl fl_a rfl dX12_is_77 ?_
    refine Go.iconst 3 dX12_is_80 (by decide) ?_
    refine GM.iald 0 (by decide) rfl dX12_is_81 h (fun v5 h => ?_)
    cases h
    exact Go.iret dX12_is_82 rfl
  rw [if_neg cc4] at h
  by_cases cc5 : x1 = 5
  · rw [if_pos cc5] at h
    refine Go.tabIn 83 5 cc5 dX12_is_1 (by decide) (by decide) rfl (by decide) ?_
    refine Go.aload_n 0 dX12_is_83 rfl ?_
    refine GM.geta 0 0 (by decide) rfl fl_a rfl dX12_is_84 ?_
    refine Go.iconst 4 dX12_is_87 (by decide) ?_
    refine GM.iald 0 (by decide) rfl dX12_is_88 h (fun v6 h => ?_)
    cases h
    exact Go.iret dX12_is_89 rfl
  rw [if_neg cc5] at h
  by_cases cc6 : x1 = 6
  · rw [if_pos cc6] at h
    refine Go.tabIn 90 6 cc6 dX12_is_1 (by decide) (by decide) rfl (by decide) ?_
    refine Go.aload_n 0 dX12_is_90 rfl ?_
    refine GM.geta 0 0 (by decide) rfl fl_a rfl dX12_is_91 ?_
    refine Go.iconst 5 dX12_is_94 (by decide) ?_
    refine GM.iald 0 (by decide) rfl dX12_is_95 h (fun v7 h => ?_)
    cases h
    exact Go.iret dX12_is_96 rfl
  rw [if_neg cc6] at h
  by_cases cc7 : x1 = 7
  · rw [if_pos cc7] at h
    refine Go.tabIn 97 7 cc7 dX12_is_1 (by decide) (by decide) rfl (by decide) ?_
    refine Go.aload_n 0 dX12_is_97 rfl ?_
    refine Go.iconst (-1) dX12_is_98 (by decide) ?_
    refine GM.callvr (rest := []) [.int (-1)] dX12_is_99 ck_sumOf ci_sumOf (rt_sumOf _) rfl rfl (Nat.le_of_ble_eq_true rfl) (Nat.le_of_ble_eq_true rfl) (Nat.le_of_ble_eq_true rfl) h (fun v8 h => ?_)
    cases h
    exact Go.iret dX12_is_102 rfl
  rw [if_neg cc7] at h
  by_cases cc8 : x1 = 8
  · rw [if_pos cc8] at h
    refine Go.tabIn 103 8 cc8 dX12_is_1 (by decide) (by decide) rfl (by decide) ?_
    refine Go.aload_n 0 dX12_is_103 rfl ?_
    refine GM.callvw (rest := []) [] dX12_is_104 ck_overlaps ci_overlaps (rt_overlaps ) rfl rfl (Nat.le_of_ble_eq_true rfl) (Nat.le_of_ble_eq_true rfl) (Nat.le_of_ble_eq_true rfl) h (fun v9 S10 h => ?_)
    cases h
    exact Go.iret dX12_is_107 rfl
  rw [if_neg cc8] at h
  by_cases cc9 : x1 = 9
  · rw [if_pos cc9] at h
    refine Go.tabIn 108 9 cc9 dX12_is_1 (by decide) (by decide) rfl (by decide) ?_
    refine Go.aload_n 0 dX12_is_108 rfl ?_
    refine Go.iconst 1 dX12_is_109 (by decide) ?_
    refine GM.callvr (rest := []) [.int 1] dX12_is_110 ck_sumOf ci_sumOf (rt_sumOf _) rfl rfl (Nat.le_of_ble_eq_true rfl) (Nat.le_of_ble_eq_true rfl) (Nat.le_of_ble_eq_true rfl) h (fun v11 h => ?_)
    cases h
    exact Go.iret dX12_is_113 rfl
  rw [if_neg cc9] at h
  refine Go.tabOut 114 dX12_is_1 (sw_out (0) 10 (by decide) (fun k hk => match k, hk with | 0, _ => cc0 | 1, _ => cc1 | 2, _ => cc2 | 3, _ => cc3 | 4, _ => cc4 | 5, _ => cc5 | 6, _ => cc6 | 7, _ => cc7 | 8, _ => cc8 | 9, _ => cc9 | (k + 10), hk => absurd hk (by omega)) _ rfl) (by decide) ?_
  refine Go.iconst (-1) dX12_is_114 (by decide) ?_
  cases h
  exact Go.iret dX12_is_115 rfl
set_option maxRecDepth 20000 in
theorem rt_is {l : Launch} {κ : KMt} {S : MS} (x1 : Int32) : ∀ Z, r_is S x1 = some Z → MtM l κ yX12_is cX12_is 2 (some .int) 7 167 [.ref κ.o, .int x1] S (some (.int Z.1)) Z.2 := fun Z h => MtM.of (by decide +kernel) rfl (Nat.le_of_ble_eq_true rfl) ⟨rfl, rfl, trivial⟩ (rs_is x1 h)
/-! word -/
def r_word (S : MS) (x1 : Int32) : Option (Int32) := (r_isThing S x1).bind (fun v1 => if v1 = 0 then some (-1) else (r_wordOf S x1).bind (fun v2 => some v2))
set_option maxRecDepth 20000 in
theorem rs_word {l : Launch} {κ : KMt} {S : MS} {Z : Int32} (x1 : Int32) (h : r_word S x1 = some Z) : Go l (EM κ) RX12 cX12_word 2 (some .int) 2 43 0 0 (some (.int Z)) S 0 [(0, .ref κ.o), (1, .int x1)] [] S := by
  unfold r_word at h
  refine Go.aload_n 0 dX12_word_0 rfl ?_
  refine Go.iload_n 1 dX12_word_1 rfl ?_
  refine GM.callvr (rest := []) [.int x1] dX12_word_2 ck_isThing ci_isThing (rt_isThing _) rfl rfl (Nat.le_of_ble_eq_true rfl) (Nat.le_of_ble_eq_true rfl) (Nat.le_of_ble_eq_true rfl) h (fun v1 h => ?_)
  refine Go.if_eq 16 dX12_word_5 (by decide) h (fun h => ?_) (fun h => ?_)
  · refine Go.iconst (-1) dX12_word_16 (by decide) ?_
    cases h
    exact Go.iret dX12_word_17 rfl
  · refine Go.aload_n 0 dX12_word_8 rfl ?_
    refine Go.iload_n 1 dX12_word_9 rfl ?_
    refine GM.callvr (rest := []) [.int x1] dX12_word_10 ck_wordOf ci_wordOf (rt_wordOf _) rfl rfl (Nat.le_of_ble_eq_true rfl) (Nat.le_of_ble_eq_true rfl) (Nat.le_of_ble_eq_true rfl) h (fun v2 h => ?_)
    refine Go.goto 17 dX12_word_13 (by decide) ?_
    cases h
    exact Go.iret dX12_word_17 rfl
set_option maxRecDepth 20000 in
theorem rt_word {l : Launch} {κ : KMt} {S : MS} (x1 : Int32) : ∀ Z, r_word S x1 = some Z → MtM l κ yX12_word cX12_word 2 (some .int) 2 43 [.ref κ.o, .int x1] S (some (.int Z)) S := fun Z h => MtM.of (by decide +kernel) rfl (Nat.le_of_ble_eq_true rfl) ⟨rfl, rfl, trivial⟩ (rs_word x1 h)
/-! thing -/
def r_thing (S : MS) (x1 : Int32) : Option (Int32) := (r_thingOf S x1).bind (fun v1 => some v1)
set_option maxRecDepth 20000 in
theorem rs_thing {l : Launch} {κ : KMt} {S : MS} {Z : Int32} (x1 : Int32) (h : r_thing S x1 = some Z) : Go l (EM κ) RX12 cX12_thing 2 (some .int) 3 65 0 0 (some (.int Z)) S 0 [(0, .ref κ.o), (1, .int x1)] [] S := by
  unfold r_thing at h
  refine Go.aload_n 0 dX12_thing_0 rfl ?_
  refine Go.iload_n 1 dX12_thing_1 rfl ?_
  refine GM.callvr (rest := []) [.int x1] dX12_thing_2 ck_thingOf ci_thingOf (rt_thingOf _) rfl rfl (Nat.le_of_ble_eq_true rfl) (Nat.le_of_ble_eq_true rfl) (Nat.le_of_ble_eq_true rfl) h (fun v1 h => ?_)
  cases h
  exact Go.iret dX12_thing_5 rfl
set_option maxRecDepth 20000 in
theorem rt_thing {l : Launch} {κ : KMt} {S : MS} (x1 : Int32) : ∀ Z, r_thing S x1 = some Z → MtM l κ yX12_thing cX12_thing 2 (some .int) 3 65 [.ref κ.o, .int x1] S (some (.int Z)) S := fun Z h => MtM.of (by decide +kernel) rfl (Nat.le_of_ble_eq_true rfl) ⟨rfl, rfl, trivial⟩ (rs_thing x1 h)
/-! letters -/
def r_letters (S : MS) (x1 : Int32) : Option (Int32) := (r_lettersOf S x1).bind (fun v1 => some v1)
set_option maxRecDepth 20000 in
theorem rs_letters {l : Launch} {κ : KMt} {S : MS} {Z : Int32} (x1 : Int32) (h : r_letters S x1 = some Z) : Go l (EM κ) RX12 cX12_letters 2 (some .int) 2 44 0 0 (some (.int Z)) S 0 [(0, .ref κ.o), (1, .int x1)] [] S := by
  unfold r_letters at h
  refine Go.iload_n 1 dX12_letters_0 rfl ?_
  refine GM.callsr (rest := []) [.int x1] dX12_letters_1 ck_lettersOf ci_lettersOf (rt_lettersOf _) rfl rfl (Nat.le_of_ble_eq_true rfl) (Nat.le_of_ble_eq_true rfl) (Nat.le_of_ble_eq_true rfl) h (fun v1 h => ?_)
  cases h
  exact Go.iret dX12_letters_4 rfl
set_option maxRecDepth 20000 in
theorem rt_letters {l : Launch} {κ : KMt} {S : MS} (x1 : Int32) : ∀ Z, r_letters S x1 = some Z → MtM l κ yX12_letters cX12_letters 2 (some .int) 2 44 [.ref κ.o, .int x1] S (some (.int Z)) S := fun Z h => MtM.of (by decide +kernel) rfl (Nat.le_of_ble_eq_true rfl) ⟨rfl, rfl, trivial⟩ (rs_letters x1 h)
/-! letter -/
def r_letter (S : MS) (x1 : Int32) (x2 : Int32) : Option (Int32) := (r_isThing S x1).bind (fun v1 => if v1 = 0 then some (-1) else (r_wordOf S x1).bind (fun v2 => (r_lettersOf S v2).bind (fun v3 => (r_isIn S x2 0 (v3 - 1)).bind (fun v4 => if v4 = 0 then some (-1) else (r_wordOf S x1).bind (fun v5 => (r_letterAt S v5 x2).bind (fun v6 => some v6))))))
set_option maxRecDepth 20000 in
theorem rs_letter {l : Launch} {κ : KMt} {S : MS} {Z : Int32} (x1 : Int32) (x2 : Int32) (h : r_letter S x1 x2 = some Z) : Go l (EM κ) RX12 cX12_letter 3 (some .int) 3 68 0 0 (some (.int Z)) S 0 [(0, .ref κ.o), (1, .int x1), (2, .int x2)] [] S := by
  unfold r_letter at h
  refine Go.aload_n 0 dX12_letter_0 rfl ?_
  refine Go.iload_n 1 dX12_letter_1 rfl ?_
  refine GM.callvr (rest := []) [.int x1] dX12_letter_2 ck_isThing ci_isThing (rt_isThing _) rfl rfl (Nat.le_of_ble_eq_true rfl) (Nat.le_of_ble_eq_true rfl) (Nat.le_of_ble_eq_true rfl) h (fun v1 h => ?_)
  refine Go.if_eq 38 dX12_letter_5 (by decide) h (fun h => ?_) (fun h => ?_)
  · refine Go.iconst (-1) dX12_letter_38 (by decide) ?_
    cases h
    exact Go.iret dX12_letter_39 rfl
  · refine Go.iload_n 2 dX12_letter_8 rfl ?_
    refine Go.iconst 0 dX12_letter_9 (by decide) ?_
    refine Go.aload_n 0 dX12_letter_10 rfl ?_
    refine Go.iload_n 1 dX12_letter_11 rfl ?_
    refine GM.callvr (rest := [.int 0, .int x2]) [.int x1] dX12_letter_12 ck_wordOf ci_wordOf (rt_wordOf _) rfl rfl (Nat.le_of_ble_eq_true rfl) (Nat.le_of_ble_eq_true rfl) (Nat.le_of_ble_eq_true rfl) h (fun v2 h => ?_)
    refine GM.callsr (rest := [.int 0, .int x2]) [.int v2] dX12_letter_15 ck_lettersOf ci_lettersOf (rt_lettersOf _) rfl rfl (Nat.le_of_ble_eq_true rfl) (Nat.le_of_ble_eq_true rfl) (Nat.le_of_ble_eq_true rfl) h (fun v3 h => ?_)
    refine Go.iconst 1 dX12_letter_18 (by decide) ?_
    refine Go.isub dX12_letter_19 ?_
    refine GM.callsr (rest := []) [.int x2, .int 0, .int (v3 - 1)] dX12_letter_20 ck_isIn ci_isIn (rt_isIn _ _ _) rfl rfl (Nat.le_of_ble_eq_true rfl) (Nat.le_of_ble_eq_true rfl) (Nat.le_of_ble_eq_true rfl) h (fun v4 h => ?_)
    refine Go.if_eq 38 dX12_letter_23 (by decide) h (fun h => ?_) (fun h => ?_)
    · refine Go.iconst (-1) dX12_letter_38 (by decide) ?_
      cases h
      exact Go.iret dX12_letter_39 rfl
    · refine Go.aload_n 0 dX12_letter_26 rfl ?_
      refine Go.iload_n 1 dX12_letter_27 rfl ?_
      refine GM.callvr (rest := []) [.int x1] dX12_letter_28 ck_wordOf ci_wordOf (rt_wordOf _) rfl rfl (Nat.le_of_ble_eq_true rfl) (Nat.le_of_ble_eq_true rfl) (Nat.le_of_ble_eq_true rfl) h (fun v5 h => ?_)
      refine Go.iload_n 2 dX12_letter_31 rfl ?_
      refine GM.callsr (rest := []) [.int v5, .int x2] dX12_letter_32 ck_letterAt ci_letterAt (rt_letterAt _ _) rfl rfl (Nat.le_of_ble_eq_true rfl) (Nat.le_of_ble_eq_true rfl) (Nat.le_of_ble_eq_true rfl) h (fun v6 h => ?_)
      refine Go.goto 39 dX12_letter_35 (by decide) ?_
      cases h
      exact Go.iret dX12_letter_39 rfl
set_option maxRecDepth 20000 in
theorem rt_letter {l : Launch} {κ : KMt} {S : MS} (x1 : Int32) (x2 : Int32) : ∀ Z, r_letter S x1 x2 = some Z → MtM l κ yX12_letter cX12_letter 3 (some .int) 3 68 [.ref κ.o, .int x1, .int x2] S (some (.int Z)) S := fun Z h => MtM.of (by decide +kernel) rfl (Nat.le_of_ble_eq_true rfl) ⟨rfl, rfl, rfl, trivial⟩ (rs_letter x1 x2 h)
/-! isWord -/
def r_isWord (S : MS) (x0 : Int32) : Option (Int32) := (r_lettersOf S x0).bind (fun v1 => if v1 = (-1) then zb 0 else zb 1)
set_option maxRecDepth 20000 in
theorem rs_isWord {l : Launch} {κ : KMt} {S : MS} {Z : Int32} (x0 : Int32) (h : r_isWord S x0 = some Z) : Go l (EM κ) RX12 cX12_isWord 1 (some .boolean) 2 44 0 0 (some (.int Z)) S 0 [(0, .int x0)] [] S := by
  unfold r_isWord at h
  refine Go.iload_n 0 dX12_isWord_0 rfl ?_
  refine GM.callsr (rest := []) [.int x0] dX12_isWord_1 ck_lettersOf ci_lettersOf (rt_lettersOf _) rfl rfl (Nat.le_of_ble_eq_true rfl) (Nat.le_of_ble_eq_true rfl) (Nat.le_of_ble_eq_true rfl) h (fun v1 h => ?_)
  refine Go.iconst (-1) dX12_isWord_4 (by decide) ?_
  refine Go.icmp_eq 12 dX12_isWord_5 (by decide) h (fun h => ?_) (fun h => ?_)
  · refine Go.iconst 0 dX12_isWord_12 (by decide) ?_
    exact Go.zret dX12_isWord_13 rfl h
  · refine Go.iconst 1 dX12_isWord_8 (by decide) ?_
    refine Go.goto 13 dX12_isWord_9 (by decide) ?_
    exact Go.zret dX12_isWord_13 rfl h
set_option maxRecDepth 20000 in
theorem rt_isWord {l : Launch} {κ : KMt} {S : MS} (x0 : Int32) : ∀ Z, r_isWord S x0 = some Z → MtM l κ yX12_isWord cX12_isWord 1 (some .boolean) 2 44 [.int x0] S (some (.int Z)) S := fun Z h => MtM.of (by decide +kernel) rfl (Nat.le_of_ble_eq_true rfl) ⟨rfl, trivial⟩ (rs_isWord x0 h)
/-! apart -/
def r_apart (S : MS) (x1 : Int32) (x2 : Int32) : Option (Int32 × MS) := (r_isWord S x1).bind (fun v1 => if v1 = 0 then some ((-1), S) else (r_isWord S x2).bind (fun v2 => if v2 = 0 then some ((-1), S) else bd2 (r_apartOf S x1 x2) (fun v3 S4 => some (v3, S4))))
set_option maxRecDepth 20000 in
theorem rs_apart {l : Launch} {κ : KMt} {S : MS} {Z : Int32 × MS} (x1 : Int32) (x2 : Int32) (h : r_apart S x1 x2 = some Z) : Go l (EM κ) RX12 cX12_apart 3 (some .int) 5 120 0 0 (some (.int Z.1)) Z.2 0 [(0, .ref κ.o), (1, .int x1), (2, .int x2)] [] S := by
  unfold r_apart at h
  refine Go.iload_n 1 dX12_apart_0 rfl ?_
  refine GM.callsr (rest := []) [.int x1] dX12_apart_1 ck_isWord ci_isWord (rt_isWord _) rfl rfl (Nat.le_of_ble_eq_true rfl) (Nat.le_of_ble_eq_true rfl) (Nat.le_of_ble_eq_true rfl) h (fun v1 h => ?_)
  refine Go.if_eq 23 dX12_apart_4 (by decide) h (fun h => ?_) (fun h => ?_)
  · refine Go.iconst (-1) dX12_apart_23 (by decide) ?_
    cases h
    exact Go.iret dX12_apart_24 rfl
  · refine Go.iload_n 2 dX12_apart_7 rfl ?_
    refine GM.callsr (rest := []) [.int x2] dX12_apart_8 ck_isWord ci_isWord (rt_isWord _) rfl rfl (Nat.le_of_ble_eq_true rfl) (Nat.le_of_ble_eq_true rfl) (Nat.le_of_ble_eq_true rfl) h (fun v2 h => ?_)
    refine Go.if_eq 23 dX12_apart_11 (by decide) h (fun h => ?_) (fun h => ?_)
    · refine Go.iconst (-1) dX12_apart_23 (by decide) ?_
      cases h
      exact Go.iret dX12_apart_24 rfl
    · refine Go.aload_n 0 dX12_apart_14 rfl ?_
      refine Go.iload_n 1 dX12_apart_15 rfl ?_
      refine Go.iload_n 2 dX12_apart_16 rfl ?_
      refine GM.callvw (rest := []) [.int x1, .int x2] dX12_apart_17 ck_apartOf ci_apartOf (rt_apartOf _ _) rfl rfl (Nat.le_of_ble_eq_true rfl) (Nat.le_of_ble_eq_true rfl) (Nat.le_of_ble_eq_true rfl) h (fun v3 S4 h => ?_)
      refine Go.goto 24 dX12_apart_20 (by decide) ?_
      cases h
      exact Go.iret dX12_apart_24 rfl
set_option maxRecDepth 20000 in
theorem rt_apart {l : Launch} {κ : KMt} {S : MS} (x1 : Int32) (x2 : Int32) : ∀ Z, r_apart S x1 x2 = some Z → MtM l κ yX12_apart cX12_apart 3 (some .int) 5 120 [.ref κ.o, .int x1, .int x2] S (some (.int Z.1)) Z.2 := fun Z h => MtM.of (by decide +kernel) rfl (Nat.le_of_ble_eq_true rfl) ⟨rfl, rfl, rfl, trivial⟩ (rs_apart x1 x2 h)
/-! far -/
def r_far (S : MS) (x1 : Int32) (x2 : Int32) : Option (Int32 × MS) := (r_isThing S x1).bind (fun v1 => if v1 = 0 then some ((-1), S) else (r_isThing S x2).bind (fun v2 => if v2 = 0 then some ((-1), S) else bd2 (r_farOf S x1 x2) (fun v3 S4 => some (v3, S4))))
set_option maxRecDepth 20000 in
theorem rs_far {l : Launch} {κ : KMt} {S : MS} {Z : Int32 × MS} (x1 : Int32) (x2 : Int32) (h : r_far S x1 x2 = some Z) : Go l (EM κ) RX12 cX12_far 3 (some .int) 6 143 0 0 (some (.int Z.1)) Z.2 0 [(0, .ref κ.o), (1, .int x1), (2, .int x2)] [] S := by
  unfold r_far at h
  refine Go.aload_n 0 dX12_far_0 rfl ?_
  refine Go.iload_n 1 dX12_far_1 rfl ?_
  refine GM.callvr (rest := []) [.int x1] dX12_far_2 ck_isThing ci_isThing (rt_isThing _) rfl rfl (Nat.le_of_ble_eq_true rfl) (Nat.le_of_ble_eq_true rfl) (Nat.le_of_ble_eq_true rfl) h (fun v1 h => ?_)
  refine Go.if_eq 25 dX12_far_5 (by decide) h (fun h => ?_) (fun h => ?_)
  · refine Go.iconst (-1) dX12_far_25 (by decide) ?_
    cases h
    exact Go.iret dX12_far_26 rfl
  · refine Go.aload_n 0 dX12_far_8 rfl ?_
    refine Go.iload_n 2 dX12_far_9 rfl ?_
    refine GM.callvr (rest := []) [.int x2] dX12_far_10 ck_isThing ci_isThing (rt_isThing _) rfl rfl (Nat.le_of_ble_eq_true rfl) (Nat.le_of_ble_eq_true rfl) (Nat.le_of_ble_eq_true rfl) h (fun v2 h => ?_)
    refine Go.if_eq 25 dX12_far_13 (by decide) h (fun h => ?_) (fun h => ?_)
    · refine Go.iconst (-1) dX12_far_25 (by decide) ?_
      cases h
      exact Go.iret dX12_far_26 rfl
    · refine Go.aload_n 0 dX12_far_16 rfl ?_
      refine Go.iload_n 1 dX12_far_17 rfl ?_
      refine Go.iload_n 2 dX12_far_18 rfl ?_
      refine GM.callvw (rest := []) [.int x1, .int x2] dX12_far_19 ck_farOf ci_farOf (rt_farOf _ _) rfl rfl (Nat.le_of_ble_eq_true rfl) (Nat.le_of_ble_eq_true rfl) (Nat.le_of_ble_eq_true rfl) h (fun v3 S4 h => ?_)
      refine Go.goto 26 dX12_far_22 (by decide) ?_
      cases h
      exact Go.iret dX12_far_26 rfl
set_option maxRecDepth 20000 in
theorem rt_far {l : Launch} {κ : KMt} {S : MS} (x1 : Int32) (x2 : Int32) : ∀ Z, r_far S x1 x2 = some Z → MtM l κ yX12_far cX12_far 3 (some .int) 6 143 [.ref κ.o, .int x1, .int x2] S (some (.int Z.1)) Z.2 := fun Z h => MtM.of (by decide +kernel) rfl (Nat.le_of_ble_eq_true rfl) ⟨rfl, rfl, rfl, trivial⟩ (rs_far x1 x2 h)
/-! layOrder -/
def r_layOrder_171 (k37 : Int32 → Int32 → MS → Option (Int32 × MS)) (x1 : Int32) (x2 : Int32) (S : MS) : Option (Int32 × MS) := k37 x1 x2 S
def r_layOrder_110 (k37 : Int32 → Int32 → MS → Option (Int32 × MS)) : Nat → Int32 → Int32 → Int32 → Int32 → Int32 → MS → Option (Int32 × MS)
  | 0, _, _, _, _, _, _ => none
  | n + 1, x1, x2, x3, x4, x5, S => if x5 < 0 then r_layOrder_171 k37 x1 x2 S else (r_isLeaf S x3).bind (fun v1 => if v1 = 0 then (r_entryOf S x3 x5 3).bind (fun v2 => (wr S 9 x2 v2).bind (fun S3 => (wr S3 14 x2 (x4 + 1)).bind (fun S4 => (wr S4 15 x2 x3).bind (fun S5 => (wr S5 16 x2 x5).bind (fun S6 => r_layOrder_110 k37 n x1 (x2 + 1) x3 x4 (x5 + (-1)) S6))))) else r_layOrder_171 k37 x1 x2 S)
def r_layOrder_37  : Nat → Int32 → Int32 → MS → Option (Int32 × MS)
  | 0, _, _, _ => none
  | n + 1, x1, x2, S => if x2 ≤ 0 then some (x1, S) else (rd S 9 (x2 + (-1))).bind (fun v7 => (rd S 14 (x2 + (-1))).bind (fun v8 => (wr S 10 x1 v7).bind (fun S9 => (wr S9 11 x1 v8).bind (fun S10 => (rd S10 15 (x2 + (-1))).bind (fun v11 => (wr S10 12 x1 v11).bind (fun S12 => (rd S12 16 (x2 + (-1))).bind (fun v13 => (wr S12 13 x1 v13).bind (fun S14 => (r_countOf S14 v7).bind (fun v15 => r_layOrder_110 (r_layOrder_37 n) FU (x1 + 1) (x2 + (-1)) v7 v8 (v15 - 1) S14)))))))))
def r_layOrder (S : MS)  : Option (Int32 × MS) := (rd S 0 2).bind (fun v16 => (wr S 9 0 v16).bind (fun S17 => (wr S17 14 0 0).bind (fun S18 => (wr S18 15 0 (-1)).bind (fun S19 => (wr S19 16 0 (-1)).bind (fun S20 => r_layOrder_37 FU 0 1 S20)))))
set_option maxRecDepth 20000 in
theorem rs_layOrder_171 {l : Launch} {κ : KMt} {Z : Int32 × MS} (k37 : Int32 → Int32 → MS → Option (Int32 × MS)) (h37 : ∀ (x1 : Int32) (x2 : Int32) (S : MS), k37 x1 x2 S = some Z → Go l (EM κ) RX12 cX12_layOrder 6 (some .int) 2 45 0 0 (some (.int Z.1)) Z.2 37 [(0, .ref κ.o), (1, .int x1), (2, .int x2)] [] S) (x1 : Int32) (x2 : Int32) (S : MS) (h : r_layOrder_171 k37 x1 x2 S = some Z) : Go l (EM κ) RX12 cX12_layOrder 6 (some .int) 2 45 0 0 (some (.int Z.1)) Z.2 171 [(0, .ref κ.o), (1, .int x1), (2, .int x2)] [] S := by
  unfold r_layOrder_171 at h
  refine Go.goto 37 dX12_layOrder_171 (by decide) ?_
  exact h37 _ _ _ h
set_option maxRecDepth 20000 in
theorem rs_layOrder_110 {l : Launch} {κ : KMt} {Z : Int32 × MS} (k37 : Int32 → Int32 → MS → Option (Int32 × MS)) (h37 : ∀ (x1 : Int32) (x2 : Int32) (S : MS), k37 x1 x2 S = some Z → Go l (EM κ) RX12 cX12_layOrder 6 (some .int) 2 45 0 0 (some (.int Z.1)) Z.2 37 [(0, .ref κ.o), (1, .int x1), (2, .int x2)] [] S) (n : Nat) : ∀ (x1 : Int32) (x2 : Int32) (x3 : Int32) (x4 : Int32) (x5 : Int32) (S : MS), r_layOrder_110 k37 n x1 x2 x3 x4 x5 S = some Z → Go l (EM κ) RX12 cX12_layOrder 6 (some .int) 2 45 0 0 (some (.int Z.1)) Z.2 110 [(0, .ref κ.o), (1, .int x1), (2, .int x2), (3, .int x3), (4, .int x4), (5, .int x5)] [] S := by
  induction n with
  | zero => intro x1 x2 x3 x4 x5 S h; rw [r_layOrder_110] at h; cases h
  | succ n ih =>
    intro x1 x2 x3 x4 x5 S h
    rw [r_layOrder_110] at h
    refine Go.iload 5 dX12_layOrder_110 rfl ?_
    refine Go.if_lt 171 dX12_layOrder_112 (by decide) h (fun h => ?_) (fun h => ?_)
    · refine Go.sub [0, 1, 2] rfl ?_
      exact rs_layOrder_171 _ h37 _ _ _ h
    · refine Go.aload_n 0 dX12_layOrder_115 rfl ?_
      refine Go.iload_n 3 dX12_layOrder_116 rfl ?_
      refine GM.callvr (rest := []) [.int x3] dX12_layOrder_117 ck_isLeaf ci_isLeaf (rt_isLeaf _) rfl rfl (Nat.le_of_ble_eq_true rfl) (Nat.le_of_ble_eq_true rfl) (Nat.le_of_ble_eq_true rfl) h (fun v1 h => ?_)
      refine Go.if_ne 171 dX12_layOrder_120 (by decide) h (fun h => ?_) (fun h => ?_)
      · refine Go.sub [0, 1, 2] rfl ?_
        exact rs_layOrder_171 _ h37 _ _ _ h
      · refine Go.aload_n 0 dX12_layOrder_123 rfl ?_
        refine GM.geta 16 9 (by decide) rfl fl_stack rfl dX12_layOrder_124 ?_
        refine Go.iload_n 2 dX12_layOrder_127 rfl ?_
        refine Go.aload_n 0 dX12_layOrder_128 rfl ?_
        refine Go.iload_n 3 dX12_layOrder_129 rfl ?_
        refine Go.iload 5 dX12_layOrder_130 rfl ?_
        refine Go.iconst 3 dX12_layOrder_132 (by decide) ?_
        refine GM.callvr (rest := [.int x2, .ref (κ.o + 1 + 9)]) [.int x3, .int x5, .int 3] dX12_layOrder_133 ck_entryOf ci_entryOf (rt_entryOf _ _ _) rfl rfl (Nat.le_of_ble_eq_true rfl) (Nat.le_of_ble_eq_true rfl) (Nat.le_of_ble_eq_true rfl) h (fun v2 h => ?_)
        refine GM.iast 9 (by decide) rfl dX12_layOrder_136 h (fun S3 h => ?_)
        refine Go.aload_n 0 dX12_layOrder_137 rfl ?_
        refine GM.geta 21 14 (by decide) rfl fl_waitDeep rfl dX12_layOrder_138 ?_
        refine Go.iload_n 2 dX12_layOrder_141 rfl ?_
        refine Go.iload 4 dX12_layOrder_142 rfl ?_
        refine Go.iconst 1 dX12_layOrder_144 (by decide) ?_
        refine Go.iadd dX12_layOrder_145 ?_
        refine GM.iast 14 (by decide) rfl dX12_layOrder_146 h (fun S4 h => ?_)
        refine Go.aload_n 0 dX12_layOrder_147 rfl ?_
        refine GM.geta 22 15 (by decide) rfl fl_waitAbove rfl dX12_layOrder_148 ?_
        refine Go.iload_n 2 dX12_layOrder_151 rfl ?_
        refine Go.iload_n 3 dX12_layOrder_152 rfl ?_
        refine GM.iast 15 (by decide) rfl dX12_layOrder_153 h (fun S5 h => ?_)
        refine Go.aload_n 0 dX12_layOrder_154 rfl ?_
        refine GM.geta 23 16 (by decide) rfl fl_waitWhich rfl dX12_layOrder_155 ?_
        refine Go.iload_n 2 dX12_layOrder_158 rfl ?_
        refine Go.iload 5 dX12_layOrder_159 rfl ?_
        refine GM.iast 16 (by decide) rfl dX12_layOrder_161 h (fun S6 h => ?_)
        refine Go.iinc (w := 1) 2 [(0, .ref κ.o), (1, .int x1), (2, .int (x2 + 1)), (3, .int x3), (4, .int x4), (5, .int x5)] dX12_layOrder_162 rfl (by decide) (by decide) rfl ?_
        refine Go.iinc (w := (-1)) 5 [(0, .ref κ.o), (1, .int x1), (2, .int (x2 + 1)), (3, .int x3), (4, .int x4), (5, .int (x5 + (-1)))] dX12_layOrder_165 rfl (by decide) (by decide) rfl ?_
        refine Go.goto 110 dX12_layOrder_168 (by decide) ?_
        exact ih _ _ _ _ _ _ h
set_option maxRecDepth 20000 in
theorem rs_layOrder_37 {l : Launch} {κ : KMt} {Z : Int32 × MS} (n : Nat) : ∀ (x1 : Int32) (x2 : Int32) (S : MS), r_layOrder_37 n x1 x2 S = some Z → Go l (EM κ) RX12 cX12_layOrder 6 (some .int) 2 45 0 0 (some (.int Z.1)) Z.2 37 [(0, .ref κ.o), (1, .int x1), (2, .int x2)] [] S := by
  induction n with
  | zero => intro x1 x2 S h; rw [r_layOrder_37] at h; cases h
  | succ n ih =>
    intro x1 x2 S h
    rw [r_layOrder_37] at h
    refine Go.iload_n 2 dX12_layOrder_37 rfl ?_
    refine Go.if_le 174 dX12_layOrder_38 (by decide) h (fun h => ?_) (fun h => ?_)
    · refine Go.iload_n 1 dX12_layOrder_174 rfl ?_
      cases h
      exact Go.iret dX12_layOrder_175 rfl
    · refine Go.iinc (w := (-1)) 2 [(0, .ref κ.o), (1, .int x1), (2, .int (x2 + (-1)))] dX12_layOrder_41 rfl (by decide) (by decide) rfl ?_
      refine Go.aload_n 0 dX12_layOrder_44 rfl ?_
      refine GM.geta 16 9 (by decide) rfl fl_stack rfl dX12_layOrder_45 ?_
      refine Go.iload_n 2 dX12_layOrder_48 rfl ?_
      refine GM.iald 9 (by decide) rfl dX12_layOrder_49 h (fun v7 h => ?_)
      refine Go.istore_n [(0, .ref κ.o), (1, .int x1), (2, .int (x2 + (-1))), (3, .int v7)] dX12_layOrder_50 (by decide) rfl ?_
      refine Go.aload_n 0 dX12_layOrder_51 rfl ?_
      refine GM.geta 21 14 (by decide) rfl fl_waitDeep rfl dX12_layOrder_52 ?_
      refine Go.iload_n 2 dX12_layOrder_55 rfl ?_
      refine GM.iald 14 (by decide) rfl dX12_layOrder_56 h (fun v8 h => ?_)
      refine Go.istore [(0, .ref κ.o), (1, .int x1), (2, .int (x2 + (-1))), (3, .int v7), (4, .int v8)] dX12_layOrder_57 (by decide) rfl ?_
      refine Go.aload_n 0 dX12_layOrder_59 rfl ?_
      refine GM.geta 17 10 (by decide) rfl fl_orderOf rfl dX12_layOrder_60 ?_
      refine Go.iload_n 1 dX12_layOrder_63 rfl ?_
      refine Go.iload_n 3 dX12_layOrder_64 rfl ?_
      refine GM.iast 10 (by decide) rfl dX12_layOrder_65 h (fun S9 h => ?_)
      refine Go.aload_n 0 dX12_layOrder_66 rfl ?_
      refine GM.geta 18 11 (by decide) rfl fl_deepOf rfl dX12_layOrder_67 ?_
      refine Go.iload_n 1 dX12_layOrder_70 rfl ?_
      refine Go.iload 4 dX12_layOrder_71 rfl ?_
      refine GM.iast 11 (by decide) rfl dX12_layOrder_73 h (fun S10 h => ?_)
      refine Go.aload_n 0 dX12_layOrder_74 rfl ?_
      refine GM.geta 19 12 (by decide) rfl fl_aboveOf rfl dX12_layOrder_75 ?_
      refine Go.iload_n 1 dX12_layOrder_78 rfl ?_
      refine Go.aload_n 0 dX12_layOrder_79 rfl ?_
      refine GM.geta 22 15 (by decide) rfl fl_waitAbove rfl dX12_layOrder_80 ?_
      refine Go.iload_n 2 dX12_layOrder_83 rfl ?_
      refine GM.iald 15 (by decide) rfl dX12_layOrder_84 h (fun v11 h => ?_)
      refine GM.iast 12 (by decide) rfl dX12_layOrder_85 h (fun S12 h => ?_)
      refine Go.aload_n 0 dX12_layOrder_86 rfl ?_
      refine GM.geta 20 13 (by decide) rfl fl_whichOf rfl dX12_layOrder_87 ?_
      refine Go.iload_n 1 dX12_layOrder_90 rfl ?_
      refine Go.aload_n 0 dX12_layOrder_91 rfl ?_
      refine GM.geta 23 16 (by decide) rfl fl_waitWhich rfl dX12_layOrder_92 ?_
      refine Go.iload_n 2 dX12_layOrder_95 rfl ?_
      refine GM.iald 16 (by decide) rfl dX12_layOrder_96 h (fun v13 h => ?_)
      refine GM.iast 13 (by decide) rfl dX12_layOrder_97 h (fun S14 h => ?_)
      refine Go.iinc (w := 1) 1 [(0, .ref κ.o), (1, .int (x1 + 1)), (2, .int (x2 + (-1))), (3, .int v7), (4, .int v8)] dX12_layOrder_98 rfl (by decide) (by decide) rfl ?_
      refine Go.aload_n 0 dX12_layOrder_101 rfl ?_
      refine Go.iload_n 3 dX12_layOrder_102 rfl ?_
      refine GM.callvr (rest := []) [.int v7] dX12_layOrder_103 ck_countOf ci_countOf (rt_countOf _) rfl rfl (Nat.le_of_ble_eq_true rfl) (Nat.le_of_ble_eq_true rfl) (Nat.le_of_ble_eq_true rfl) h (fun v15 h => ?_)
      refine Go.iconst 1 dX12_layOrder_106 (by decide) ?_
      refine Go.isub dX12_layOrder_107 ?_
      refine Go.istore [(0, .ref κ.o), (1, .int (x1 + 1)), (2, .int (x2 + (-1))), (3, .int v7), (4, .int v8), (5, .int (v15 - 1))] dX12_layOrder_108 (by decide) rfl ?_
      exact rs_layOrder_110 _ ih _ _ _ _ _ _ _ h
set_option maxRecDepth 20000 in
theorem rs_layOrder {l : Launch} {κ : KMt} {S : MS} {Z : Int32 × MS}  (h : r_layOrder S  = some Z) : Go l (EM κ) RX12 cX12_layOrder 6 (some .int) 2 45 0 0 (some (.int Z.1)) Z.2 0 [(0, .ref κ.o)] [] S := by
  unfold r_layOrder at h
  refine Go.iconst 0 dX12_layOrder_0 (by decide) ?_
  refine Go.istore_n [(0, .ref κ.o), (1, .int 0)] dX12_layOrder_1 (by decide) rfl ?_
  refine Go.iconst 1 dX12_layOrder_2 (by decide) ?_
  refine Go.istore_n [(0, .ref κ.o), (1, .int 0), (2, .int 1)] dX12_layOrder_3 (by decide) rfl ?_
  refine Go.aload_n 0 dX12_layOrder_4 rfl ?_
  refine GM.geta 16 9 (by decide) rfl fl_stack rfl dX12_layOrder_5 ?_
  refine Go.iconst 0 dX12_layOrder_8 (by decide) ?_
  refine Go.aload_n 0 dX12_layOrder_9 rfl ?_
  refine GM.geta 0 0 (by decide) rfl fl_a rfl dX12_layOrder_10 ?_
  refine Go.iconst 2 dX12_layOrder_13 (by decide) ?_
  refine GM.iald 0 (by decide) rfl dX12_layOrder_14 h (fun v16 h => ?_)
  refine GM.iast 9 (by decide) rfl dX12_layOrder_15 h (fun S17 h => ?_)
  refine Go.aload_n 0 dX12_layOrder_16 rfl ?_
  refine GM.geta 21 14 (by decide) rfl fl_waitDeep rfl dX12_layOrder_17 ?_
  refine Go.iconst 0 dX12_layOrder_20 (by decide) ?_
  refine Go.iconst 0 dX12_layOrder_21 (by decide) ?_
  refine GM.iast 14 (by decide) rfl dX12_layOrder_22 h (fun S18 h => ?_)
  refine Go.aload_n 0 dX12_layOrder_23 rfl ?_
  refine GM.geta 22 15 (by decide) rfl fl_waitAbove rfl dX12_layOrder_24 ?_
  refine Go.iconst 0 dX12_layOrder_27 (by decide) ?_
  refine Go.iconst (-1) dX12_layOrder_28 (by decide) ?_
  refine GM.iast 15 (by decide) rfl dX12_layOrder_29 h (fun S19 h => ?_)
  refine Go.aload_n 0 dX12_layOrder_30 rfl ?_
  refine GM.geta 23 16 (by decide) rfl fl_waitWhich rfl dX12_layOrder_31 ?_
  refine Go.iconst 0 dX12_layOrder_34 (by decide) ?_
  refine Go.iconst (-1) dX12_layOrder_35 (by decide) ?_
  refine GM.iast 16 (by decide) rfl dX12_layOrder_36 h (fun S20 h => ?_)
  exact rs_layOrder_37 _ _ _ _ h
set_option maxRecDepth 20000 in
theorem rt_layOrder {l : Launch} {κ : KMt} {S : MS}  : ∀ Z, r_layOrder S  = some Z → MtM l κ yX12_layOrder cX12_layOrder 6 (some .int) 2 45 [.ref κ.o] S (some (.int Z.1)) Z.2 := fun Z h => MtM.of (by decide +kernel) rfl (Nat.le_of_ble_eq_true rfl) ⟨rfl, trivial⟩ (rs_layOrder  h)
/-! placeIn -/
def r_placeIn_2 (S : MS)  : Nat → Int32 → Int32 → Int32 → Option (Int32)
  | 0, _, _, _ => none
  | n + 1, x1, x2, x3 => if x2 ≤ x3 then some (-1) else (rd S 10 x3).bind (fun v1 => if v1 = x1 then some x3 else r_placeIn_2 S n x1 x2 (x3 + 1))
def r_placeIn (S : MS) (x1 : Int32) (x2 : Int32) : Option (Int32) := r_placeIn_2 S FU x1 x2 0
set_option maxRecDepth 20000 in
theorem rs_placeIn_2 {l : Launch} {κ : KMt} {S : MS} {Z : Int32} (n : Nat) : ∀ (x1 : Int32) (x2 : Int32) (x3 : Int32), r_placeIn_2 S n x1 x2 x3 = some Z → Go l (EM κ) RX12 cX12_placeIn 4 (some .int) 0 0 0 0 (some (.int Z)) S 2 [(0, .ref κ.o), (1, .int x1), (2, .int x2), (3, .int x3)] [] S := by
  induction n with
  | zero => intro x1 x2 x3 h; rw [r_placeIn_2] at h; cases h
  | succ n ih =>
    intro x1 x2 x3 h
    rw [r_placeIn_2] at h
    refine Go.iload_n 3 dX12_placeIn_2 rfl ?_
    refine Go.iload_n 2 dX12_placeIn_3 rfl ?_
    refine Go.icmp_ge 25 dX12_placeIn_4 (by decide) h (fun h => ?_) (fun h => ?_)
    · refine Go.iconst (-1) dX12_placeIn_25 (by decide) ?_
      cases h
      exact Go.iret dX12_placeIn_26 rfl
    · refine Go.aload_n 0 dX12_placeIn_7 rfl ?_
      refine GM.geta 17 10 (by decide) rfl fl_orderOf rfl dX12_placeIn_8 ?_
      refine Go.iload_n 3 dX12_placeIn_11 rfl ?_
      refine GM.iald 10 (by decide) rfl dX12_placeIn_12 h (fun v1 h => ?_)
      refine Go.iload_n 1 dX12_placeIn_13 rfl ?_
      refine Go.icmp_ne 19 dX12_placeIn_14 (by decide) h (fun h => ?_) (fun h => ?_)
      · refine Go.iinc (w := 1) 3 [(0, .ref κ.o), (1, .int x1), (2, .int x2), (3, .int (x3 + 1))] dX12_placeIn_19 rfl (by decide) (by decide) rfl ?_
        refine Go.goto 2 dX12_placeIn_22 (by decide) ?_
        exact ih _ _ _ h
      · refine Go.iload_n 3 dX12_placeIn_17 rfl ?_
        cases h
        exact Go.iret dX12_placeIn_18 rfl
set_option maxRecDepth 20000 in
theorem rs_placeIn {l : Launch} {κ : KMt} {S : MS} {Z : Int32} (x1 : Int32) (x2 : Int32) (h : r_placeIn S x1 x2 = some Z) : Go l (EM κ) RX12 cX12_placeIn 4 (some .int) 0 0 0 0 (some (.int Z)) S 0 [(0, .ref κ.o), (1, .int x1), (2, .int x2)] [] S := by
  unfold r_placeIn at h
  refine Go.iconst 0 dX12_placeIn_0 (by decide) ?_
  refine Go.istore_n [(0, .ref κ.o), (1, .int x1), (2, .int x2), (3, .int 0)] dX12_placeIn_1 (by decide) rfl ?_
  exact rs_placeIn_2 _ _ _ _ h
set_option maxRecDepth 20000 in
theorem rt_placeIn {l : Launch} {κ : KMt} {S : MS} (x1 : Int32) (x2 : Int32) : ∀ Z, r_placeIn S x1 x2 = some Z → MtM l κ yX12_placeIn cX12_placeIn 4 (some .int) 0 0 [.ref κ.o, .int x1, .int x2] S (some (.int Z)) S := fun Z h => MtM.of (by decide +kernel) rfl (Nat.le_of_ble_eq_true rfl) ⟨rfl, rfl, rfl, trivial⟩ (rs_placeIn x1 x2 h)
/-! page -/
def r_page (S : MS) (x1 : Int32) (x2 : Int32) : Option (Int32 × MS) := bd2 (r_layOrder S ) (fun v1 S2 => (r_isIn S2 x1 0 (v1 - 1)).bind (fun v3 => if v3 = 0 then some ((-2), S2) else (rd S2 10 x1).bind (fun v4 => if x2 = 0 then (r_isLeaf S2 v4).bind (fun v5 => if v5 = 0 then some (0, S2) else some (1, S2)) else if x2 = 1 then (r_countOf S2 v4).bind (fun v6 => some (v6, S2)) else if x2 = 2 then if x1 = 0 then some ((-1), S2) else (rd S2 12 x1).bind (fun v7 => (rd S2 13 x1).bind (fun v8 => (r_entryOf S2 v7 v8 0).bind (fun v9 => some (v9, S2)))) else if x2 = 3 then if x1 = 0 then some ((-1), S2) else (rd S2 12 x1).bind (fun v10 => (rd S2 13 x1).bind (fun v11 => (r_entryOf S2 v10 v11 1).bind (fun v12 => some (v12, S2)))) else if x2 = 4 then (rd S2 11 x1).bind (fun v13 => some (v13, S2)) else if x2 = 5 then bd2 (r_layBelow S2 v4) (fun v14 S15 => some (v14, S15)) else some ((-2), S2))))
set_option maxRecDepth 20000 in
theorem rs_page {l : Launch} {κ : KMt} {S : MS} {Z : Int32 × MS} (x1 : Int32) (x2 : Int32) (h : r_page S x1 x2 = some Z) : Go l (EM κ) RX12 cX12_page 5 (some .int) 3 70 0 0 (some (.int Z.1)) Z.2 0 [(0, .ref κ.o), (1, .int x1), (2, .int x2)] [] S := by
  unfold r_page at h
  refine Go.aload_n 0 dX12_page_0 rfl ?_
  refine GM.callvw (rest := []) [] dX12_page_1 ck_layOrder ci_layOrder (rt_layOrder ) rfl rfl (Nat.le_of_ble_eq_true rfl) (Nat.le_of_ble_eq_true rfl) (Nat.le_of_ble_eq_true rfl) h (fun v1 S2 h => ?_)
  refine Go.istore_n [(0, .ref κ.o), (1, .int x1), (2, .int x2), (3, .int v1)] dX12_page_4 (by decide) rfl ?_
  refine Go.iload_n 1 dX12_page_5 rfl ?_
  refine Go.iconst 0 dX12_page_6 (by decide) ?_
  refine Go.iload_n 3 dX12_page_7 rfl ?_
  refine Go.iconst 1 dX12_page_8 (by decide) ?_
  refine Go.isub dX12_page_9 ?_
  refine GM.callsr (rest := []) [.int x1, .int 0, .int (v1 - 1)] dX12_page_10 ck_isIn ci_isIn (rt_isIn _ _ _) rfl rfl (Nat.le_of_ble_eq_true rfl) (Nat.le_of_ble_eq_true rfl) (Nat.le_of_ble_eq_true rfl) h (fun v3 h => ?_)
  refine Go.if_ne 19 dX12_page_13 (by decide) h (fun h => ?_) (fun h => ?_)
  · refine Go.aload_n 0 dX12_page_19 rfl ?_
    refine GM.geta 17 10 (by decide) rfl fl_orderOf rfl dX12_page_20 ?_
    refine Go.iload_n 1 dX12_page_23 rfl ?_
    refine GM.iald 10 (by decide) rfl dX12_page_24 h (fun v4 h => ?_)
    refine Go.istore [(0, .ref κ.o), (1, .int x1), (2, .int x2), (3, .int v1), (4, .int v4)] dX12_page_25 (by decide) rfl ?_
    refine Go.iload_n 2 dX12_page_27 rfl ?_
    by_cases cc0 : x2 = 0
    · rw [if_pos cc0] at h
      refine Go.tabIn 68 0 cc0 dX12_page_28 (by decide) (by decide) rfl (by decide) ?_
      refine Go.aload_n 0 dX12_page_68 rfl ?_
      refine Go.iload 4 dX12_page_69 rfl ?_
      refine GM.callvr (rest := []) [.int v4] dX12_page_71 ck_isLeaf ci_isLeaf (rt_isLeaf _) rfl rfl (Nat.le_of_ble_eq_true rfl) (Nat.le_of_ble_eq_true rfl) (Nat.le_of_ble_eq_true rfl) h (fun v5 h => ?_)
      refine Go.if_eq 81 dX12_page_74 (by decide) h (fun h => ?_) (fun h => ?_)
      · refine Go.iconst 0 dX12_page_81 (by decide) ?_
        cases h
        exact Go.iret dX12_page_82 rfl
      · refine Go.iconst 1 dX12_page_77 (by decide) ?_
        refine Go.goto 82 dX12_page_78 (by decide) ?_
        cases h
        exact Go.iret dX12_page_82 rfl
    rw [if_neg cc0] at h
    by_cases cc1 : x2 = 1
    · rw [if_pos cc1] at h
      refine Go.tabIn 83 1 cc1 dX12_page_28 (by decide) (by decide) rfl (by decide) ?_
      refine Go.aload_n 0 dX12_page_83 rfl ?_
      refine Go.iload 4 dX12_page_84 rfl ?_
      refine GM.callvr (rest := []) [.int v4] dX12_page_86 ck_countOf ci_countOf (rt_countOf _) rfl rfl (Nat.le_of_ble_eq_true rfl) (Nat.le_of_ble_eq_true rfl) (Nat.le_of_ble_eq_true rfl) h (fun v6 h => ?_)
      cases h
      exact Go.iret dX12_page_89 rfl
    rw [if_neg cc1] at h
    by_cases cc2 : x2 = 2
    · rw [if_pos cc2] at h
      refine Go.tabIn 90 2 cc2 dX12_page_28 (by decide) (by decide) rfl (by decide) ?_
      refine Go.iload_n 1 dX12_page_90 rfl ?_
      refine Go.if_ne 98 dX12_page_91 (by decide) h (fun h => ?_) (fun h => ?_)
      · refine Go.aload_n 0 dX12_page_98 rfl ?_
        refine Go.aload_n 0 dX12_page_99 rfl ?_
        refine GM.geta 19 12 (by decide) rfl fl_aboveOf rfl dX12_page_100 ?_
        refine Go.iload_n 1 dX12_page_103 rfl ?_
        refine GM.iald 12 (by decide) rfl dX12_page_104 h (fun v7 h => ?_)
        refine Go.aload_n 0 dX12_page_105 rfl ?_
        refine GM.geta 20 13 (by decide) rfl fl_whichOf rfl dX12_page_106 ?_
        refine Go.iload_n 1 dX12_page_109 rfl ?_
        refine GM.iald 13 (by decide) rfl dX12_page_110 h (fun v8 h => ?_)
        refine Go.iconst 0 dX12_page_111 (by decide) ?_
        refine GM.callvr (rest := []) [.int v7, .int v8, .int 0] dX12_page_112 ck_entryOf ci_entryOf (rt_entryOf _ _ _) rfl rfl (Nat.le_of_ble_eq_true rfl) (Nat.le_of_ble_eq_true rfl) (Nat.le_of_ble_eq_true rfl) h (fun v9 h => ?_)
        cases h
        exact Go.iret dX12_page_115 rfl
      · refine Go.iconst (-1) dX12_page_94 (by decide) ?_
        refine Go.goto 115 dX12_page_95 (by decide) ?_
        cases h
        exact Go.iret dX12_page_115 rfl
    rw [if_neg cc2] at h
    by_cases cc3 : x2 = 3
    · rw [if_pos cc3] at h
      refine Go.tabIn 116 3 cc3 dX12_page_28 (by decide) (by decide) rfl (by decide) ?_
      refine Go.iload_n 1 dX12_page_116 rfl ?_
      refine Go.if_ne 124 dX12_page_117 (by decide) h (fun h => ?_) (fun h => ?_)
      · refine Go.aload_n 0 dX12_page_124 rfl ?_
        refine Go.aload_n 0 dX12_page_125 rfl ?_
        refine GM.geta 19 12 (by decide) rfl fl_aboveOf rfl dX12_page_126 ?_
        refine Go.iload_n 1 dX12_page_129 rfl ?_
        refine GM.iald 12 (by decide) rfl dX12_page_130 h (fun v10 h => ?_)
        refine Go.aload_n 0 dX12_page_131 rfl ?_
        refine GM.geta 20 13 (by decide) rfl fl_whichOf rfl dX12_page_132 ?_
        refine Go.iload_n 1 dX12_page_135 rfl ?_
        refine GM.iald 13 (by decide) rfl dX12_page_136 h (fun v11 h => ?_)
        refine Go.iconst 1 dX12_page_137 (by decide) ?_
        refine GM.callvr (rest := []) [.int v10, .int v11, .int 1] dX12_page_138 ck_entryOf ci_entryOf (rt_entryOf _ _ _) rfl rfl (Nat.le_of_ble_eq_true rfl) (Nat.le_of_ble_eq_true rfl) (Nat.le_of_ble_eq_true rfl) h (fun v12 h => ?_)
        cases h
        exact Go.iret dX12_page_141 rfl
      · refine Go.iconst (-1) dX12_page_120 (by decide) ?_
        refine Go.goto 141 dX12_page_121 (by decide) ?_
        cases h
        exact Go.iret dX12_page_141 rfl
    rw [if_neg cc3] at h
    by_cases cc4 : x2 = 4
    · rw [if_pos cc4] at h
      refine Go.tabIn 142 4 cc4 dX12_page_28 (by decide) (by decide) rfl (by decide) ?_
      refine Go.aload_n 0 dX12_page_142 rfl ?_
      refine GM.geta 18 11 (by decide) rfl fl_deepOf rfl dX12_page_143 ?_
      refine Go.iload_n 1 dX12_page_146 rfl ?_
      refine GM.iald 11 (by decide) rfl dX12_page_147 h (fun v13 h => ?_)
      cases h
      exact Go.iret dX12_page_148 rfl
    rw [if_neg cc4] at h
    by_cases cc5 : x2 = 5
    · rw [if_pos cc5] at h
      refine Go.tabIn 149 5 cc5 dX12_page_28 (by decide) (by decide) rfl (by decide) ?_
      refine Go.aload_n 0 dX12_page_149 rfl ?_
      refine Go.iload 4 dX12_page_150 rfl ?_
      refine GM.callvw (rest := []) [.int v4] dX12_page_152 ck_layBelow ci_layBelow (rt_layBelow _) rfl rfl (Nat.le_of_ble_eq_true rfl) (Nat.le_of_ble_eq_true rfl) (Nat.le_of_ble_eq_true rfl) h (fun v14 S15 h => ?_)
      cases h
      exact Go.iret dX12_page_155 rfl
    rw [if_neg cc5] at h
    refine Go.tabOut 156 dX12_page_28 (sw_out (0) 6 (by decide) (fun k hk => match k, hk with | 0, _ => cc0 | 1, _ => cc1 | 2, _ => cc2 | 3, _ => cc3 | 4, _ => cc4 | 5, _ => cc5 | (k + 6), hk => absurd hk (by omega)) _ rfl) (by decide) ?_
    refine Go.bipush (-2) dX12_page_156 (by decide) ?_
    cases h
    exact Go.iret dX12_page_158 rfl
  · refine Go.bipush (-2) dX12_page_16 (by decide) ?_
    cases h
    exact Go.iret dX12_page_18 rfl
set_option maxRecDepth 20000 in
theorem rt_page {l : Launch} {κ : KMt} {S : MS} (x1 : Int32) (x2 : Int32) : ∀ Z, r_page S x1 x2 = some Z → MtM l κ yX12_page cX12_page 5 (some .int) 3 70 [.ref κ.o, .int x1, .int x2] S (some (.int Z.1)) Z.2 := fun Z h => MtM.of (by decide +kernel) rfl (Nat.le_of_ble_eq_true rfl) ⟨rfl, rfl, rfl, trivial⟩ (rs_page x1 x2 h)
/-! entry -/
def r_entry (S : MS) (x1 : Int32) (x2 : Int32) (x3 : Int32) : Option (Int32 × MS) := bd2 (r_layOrder S ) (fun v1 S2 => (r_isIn S2 x1 0 (v1 - 1)).bind (fun v3 => if v3 = 0 then some ((-2), S2) else (rd S2 10 x1).bind (fun v4 => (r_countOf S2 v4).bind (fun v5 => (r_isIn S2 x2 0 (v5 - 1)).bind (fun v6 => if v6 = 0 then some ((-2), S2) else (r_isIn S2 x3 0 3).bind (fun v7 => if v7 = 0 then some ((-2), S2) else (rd S2 10 x1).bind (fun v8 => if 3 ≤ x3 then (r_isLeaf S2 v8).bind (fun v9 => if v9 = 0 then (r_entryOf S2 v8 x2 3).bind (fun v10 => (r_placeIn S2 v10 v1).bind (fun v11 => some (v11, S2))) else some ((-1), S2)) else (r_entryOf S2 v8 x2 x3).bind (fun v12 => some (v12, S2)))))))))
set_option maxRecDepth 20000 in
theorem rs_entry {l : Launch} {κ : KMt} {S : MS} {Z : Int32 × MS} (x1 : Int32) (x2 : Int32) (x3 : Int32) (h : r_entry S x1 x2 x3 = some Z) : Go l (EM κ) RX12 cX12_entry 6 (some .int) 3 70 0 0 (some (.int Z.1)) Z.2 0 [(0, .ref κ.o), (1, .int x1), (2, .int x2), (3, .int x3)] [] S := by
  unfold r_entry at h
  refine Go.aload_n 0 dX12_entry_0 rfl ?_
  refine GM.callvw (rest := []) [] dX12_entry_1 ck_layOrder ci_layOrder (rt_layOrder ) rfl rfl (Nat.le_of_ble_eq_true rfl) (Nat.le_of_ble_eq_true rfl) (Nat.le_of_ble_eq_true rfl) h (fun v1 S2 h => ?_)
  refine Go.istore [(0, .ref κ.o), (1, .int x1), (2, .int x2), (3, .int x3), (4, .int v1)] dX12_entry_4 (by decide) rfl ?_
  refine Go.iload_n 1 dX12_entry_6 rfl ?_
  refine Go.iconst 0 dX12_entry_7 (by decide) ?_
  refine Go.iload 4 dX12_entry_8 rfl ?_
  refine Go.iconst 1 dX12_entry_10 (by decide) ?_
  refine Go.isub dX12_entry_11 ?_
  refine GM.callsr (rest := []) [.int x1, .int 0, .int (v1 - 1)] dX12_entry_12 ck_isIn ci_isIn (rt_isIn _ _ _) rfl rfl (Nat.le_of_ble_eq_true rfl) (Nat.le_of_ble_eq_true rfl) (Nat.le_of_ble_eq_true rfl) h (fun v3 h => ?_)
  refine Go.if_eq 47 dX12_entry_15 (by decide) h (fun h => ?_) (fun h => ?_)
  · refine Go.bipush (-2) dX12_entry_47 (by decide) ?_
    cases h
    exact Go.iret dX12_entry_49 rfl
  · refine Go.iload_n 2 dX12_entry_18 rfl ?_
    refine Go.iconst 0 dX12_entry_19 (by decide) ?_
    refine Go.aload_n 0 dX12_entry_20 rfl ?_
    refine Go.aload_n 0 dX12_entry_21 rfl ?_
    refine GM.geta 17 10 (by decide) rfl fl_orderOf rfl dX12_entry_22 ?_
    refine Go.iload_n 1 dX12_entry_25 rfl ?_
    refine GM.iald 10 (by decide) rfl dX12_entry_26 h (fun v4 h => ?_)
    refine GM.callvr (rest := [.int 0, .int x2]) [.int v4] dX12_entry_27 ck_countOf ci_countOf (rt_countOf _) rfl rfl (Nat.le_of_ble_eq_true rfl) (Nat.le_of_ble_eq_true rfl) (Nat.le_of_ble_eq_true rfl) h (fun v5 h => ?_)
    refine Go.iconst 1 dX12_entry_30 (by decide) ?_
    refine Go.isub dX12_entry_31 ?_
    refine GM.callsr (rest := []) [.int x2, .int 0, .int (v5 - 1)] dX12_entry_32 ck_isIn ci_isIn (rt_isIn _ _ _) rfl rfl (Nat.le_of_ble_eq_true rfl) (Nat.le_of_ble_eq_true rfl) (Nat.le_of_ble_eq_true rfl) h (fun v6 h => ?_)
    refine Go.if_eq 47 dX12_entry_35 (by decide) h (fun h => ?_) (fun h => ?_)
    · refine Go.bipush (-2) dX12_entry_47 (by decide) ?_
      cases h
      exact Go.iret dX12_entry_49 rfl
    · refine Go.iload_n 3 dX12_entry_38 rfl ?_
      refine Go.iconst 0 dX12_entry_39 (by decide) ?_
      refine Go.iconst 3 dX12_entry_40 (by decide) ?_
      refine GM.callsr (rest := []) [.int x3, .int 0, .int 3] dX12_entry_41 ck_isIn ci_isIn (rt_isIn _ _ _) rfl rfl (Nat.le_of_ble_eq_true rfl) (Nat.le_of_ble_eq_true rfl) (Nat.le_of_ble_eq_true rfl) h (fun v7 h => ?_)
      refine Go.if_ne 50 dX12_entry_44 (by decide) h (fun h => ?_) (fun h => ?_)
      · refine Go.aload_n 0 dX12_entry_50 rfl ?_
        refine GM.geta 17 10 (by decide) rfl fl_orderOf rfl dX12_entry_51 ?_
        refine Go.iload_n 1 dX12_entry_54 rfl ?_
        refine GM.iald 10 (by decide) rfl dX12_entry_55 h (fun v8 h => ?_)
        refine Go.istore [(0, .ref κ.o), (1, .int x1), (2, .int x2), (3, .int x3), (4, .int v1), (5, .int v8)] dX12_entry_56 (by decide) rfl ?_
        refine Go.iload_n 3 dX12_entry_58 rfl ?_
        refine Go.iconst 3 dX12_entry_59 (by decide) ?_
        refine Go.icmp_ge 72 dX12_entry_60 (by decide) h (fun h => ?_) (fun h => ?_)
        · refine Go.aload_n 0 dX12_entry_72 rfl ?_
          refine Go.iload 5 dX12_entry_73 rfl ?_
          refine GM.callvr (rest := []) [.int v8] dX12_entry_75 ck_isLeaf ci_isLeaf (rt_isLeaf _) rfl rfl (Nat.le_of_ble_eq_true rfl) (Nat.le_of_ble_eq_true rfl) (Nat.le_of_ble_eq_true rfl) h (fun v9 h => ?_)
          refine Go.if_eq 85 dX12_entry_78 (by decide) h (fun h => ?_) (fun h => ?_)
          · refine Go.aload_n 0 dX12_entry_85 rfl ?_
            refine Go.aload_n 0 dX12_entry_86 rfl ?_
            refine Go.iload 5 dX12_entry_87 rfl ?_
            refine Go.iload_n 2 dX12_entry_89 rfl ?_
            refine Go.iconst 3 dX12_entry_90 (by decide) ?_
            refine GM.callvr (rest := [.ref κ.o]) [.int v8, .int x2, .int 3] dX12_entry_91 ck_entryOf ci_entryOf (rt_entryOf _ _ _) rfl rfl (Nat.le_of_ble_eq_true rfl) (Nat.le_of_ble_eq_true rfl) (Nat.le_of_ble_eq_true rfl) h (fun v10 h => ?_)
            refine Go.iload 4 dX12_entry_94 rfl ?_
            refine GM.callvr (rest := []) [.int v10, .int v1] dX12_entry_96 ck_placeIn ci_placeIn (rt_placeIn _ _) rfl rfl (Nat.le_of_ble_eq_true rfl) (Nat.le_of_ble_eq_true rfl) (Nat.le_of_ble_eq_true rfl) h (fun v11 h => ?_)
            cases h
            exact Go.iret dX12_entry_99 rfl
          · refine Go.iconst (-1) dX12_entry_81 (by decide) ?_
            refine Go.goto 99 dX12_entry_82 (by decide) ?_
            cases h
            exact Go.iret dX12_entry_99 rfl
        · refine Go.aload_n 0 dX12_entry_63 rfl ?_
          refine Go.iload 5 dX12_entry_64 rfl ?_
          refine Go.iload_n 2 dX12_entry_66 rfl ?_
          refine Go.iload_n 3 dX12_entry_67 rfl ?_
          refine GM.callvr (rest := []) [.int v8, .int x2, .int x3] dX12_entry_68 ck_entryOf ci_entryOf (rt_entryOf _ _ _) rfl rfl (Nat.le_of_ble_eq_true rfl) (Nat.le_of_ble_eq_true rfl) (Nat.le_of_ble_eq_true rfl) h (fun v12 h => ?_)
          cases h
          exact Go.iret dX12_entry_71 rfl
      · refine Go.bipush (-2) dX12_entry_47 (by decide) ?_
        cases h
        exact Go.iret dX12_entry_49 rfl
set_option maxRecDepth 20000 in
theorem rt_entry {l : Launch} {κ : KMt} {S : MS} (x1 : Int32) (x2 : Int32) (x3 : Int32) : ∀ Z, r_entry S x1 x2 x3 = some Z → MtM l κ yX12_entry cX12_entry 6 (some .int) 3 70 [.ref κ.o, .int x1, .int x2, .int x3] S (some (.int Z.1)) Z.2 := fun Z h => MtM.of (by decide +kernel) rfl (Nat.le_of_ble_eq_true rfl) ⟨rfl, rfl, rfl, rfl, trivial⟩ (rs_entry x1 x2 x3 h)
/-! leafOf -/
def r_leafOf (S : MS) (x1 : Int32) : Option (Int32 × MS) := (r_isThing S x1).bind (fun v1 => if v1 = 0 then some ((-1), S) else bd2 (r_layOrder S ) (fun v2 S3 => bd2 (r_holderOf S3 0 x1 1) (fun v4 S5 => (r_placeIn S5 v4 v2).bind (fun v6 => some (v6, S5)))))
set_option maxRecDepth 20000 in
theorem rs_leafOf {l : Launch} {κ : KMt} {S : MS} {Z : Int32 × MS} (x1 : Int32) (h : r_leafOf S x1 = some Z) : Go l (EM κ) RX12 cX12_leafOf 3 (some .int) 3 70 0 0 (some (.int Z.1)) Z.2 0 [(0, .ref κ.o), (1, .int x1)] [] S := by
  unfold r_leafOf at h
  refine Go.aload_n 0 dX12_leafOf_0 rfl ?_
  refine Go.iload_n 1 dX12_leafOf_1 rfl ?_
  refine GM.callvr (rest := []) [.int x1] dX12_leafOf_2 ck_isThing ci_isThing (rt_isThing _) rfl rfl (Nat.le_of_ble_eq_true rfl) (Nat.le_of_ble_eq_true rfl) (Nat.le_of_ble_eq_true rfl) h (fun v1 h => ?_)
  refine Go.if_ne 10 dX12_leafOf_5 (by decide) h (fun h => ?_) (fun h => ?_)
  · refine Go.aload_n 0 dX12_leafOf_10 rfl ?_
    refine GM.callvw (rest := []) [] dX12_leafOf_11 ck_layOrder ci_layOrder (rt_layOrder ) rfl rfl (Nat.le_of_ble_eq_true rfl) (Nat.le_of_ble_eq_true rfl) (Nat.le_of_ble_eq_true rfl) h (fun v2 S3 h => ?_)
    refine Go.istore_n [(0, .ref κ.o), (1, .int x1), (2, .int v2)] dX12_leafOf_14 (by decide) rfl ?_
    refine Go.aload_n 0 dX12_leafOf_15 rfl ?_
    refine Go.aload_n 0 dX12_leafOf_16 rfl ?_
    refine Go.iconst 0 dX12_leafOf_17 (by decide) ?_
    refine Go.iload_n 1 dX12_leafOf_18 rfl ?_
    refine Go.iconst 1 dX12_leafOf_19 (by decide) ?_
    refine GM.callvw (rest := [.ref κ.o]) [.int 0, .int x1, .int 1] dX12_leafOf_20 ck_holderOf ci_holderOf (rt_holderOf _ _ _) rfl rfl (Nat.le_of_ble_eq_true rfl) (Nat.le_of_ble_eq_true rfl) (Nat.le_of_ble_eq_true rfl) h (fun v4 S5 h => ?_)
    refine Go.iload_n 2 dX12_leafOf_23 rfl ?_
    refine GM.callvr (rest := []) [.int v4, .int v2] dX12_leafOf_24 ck_placeIn ci_placeIn (rt_placeIn _ _) rfl rfl (Nat.le_of_ble_eq_true rfl) (Nat.le_of_ble_eq_true rfl) (Nat.le_of_ble_eq_true rfl) h (fun v6 h => ?_)
    cases h
    exact Go.iret dX12_leafOf_27 rfl
  · refine Go.iconst (-1) dX12_leafOf_8 (by decide) ?_
    cases h
    exact Go.iret dX12_leafOf_9 rfl
set_option maxRecDepth 20000 in
theorem rt_leafOf {l : Launch} {κ : KMt} {S : MS} (x1 : Int32) : ∀ Z, r_leafOf S x1 = some Z → MtM l κ yX12_leafOf cX12_leafOf 3 (some .int) 3 70 [.ref κ.o, .int x1] S (some (.int Z.1)) Z.2 := fun Z h => MtM.of (by decide +kernel) rfl (Nat.le_of_ble_eq_true rfl) ⟨rfl, rfl, trivial⟩ (rs_leafOf x1 h)
/-! begin -/
def r_begin_2  : Nat → Int32 → Int32 → Int32 → MS → Option (MS)
  | 0, _, _, _, _ => none
  | n + 1, x1, x2, x3, S => if 40 ≤ x3 then some (pf (pf (pf (pf (pf (pf (pf S 26 0) 27 0) 28 0) 29 0) 30 x2) 31 x1) 33 1) else (wr S 17 x3 (-1)).bind (fun S1 => r_begin_2 n x1 x2 (x3 + 1) S1)
def r_begin (S : MS) (x1 : Int32) (x2 : Int32) : Option (MS) := r_begin_2 FU x1 x2 0 S
set_option maxRecDepth 20000 in
theorem rs_begin_2 {l : Launch} {κ : KMt} {Z : MS} (n : Nat) : ∀ (x1 : Int32) (x2 : Int32) (x3 : Int32) (S : MS), r_begin_2 n x1 x2 x3 S = some Z → Go l (EM κ) RX12 cX12_begin 4 none 0 0 0 0 none Z 2 [(0, .ref κ.o), (1, .int x1), (2, .int x2), (3, .int x3)] [] S := by
  induction n with
  | zero => intro x1 x2 x3 S h; rw [r_begin_2] at h; cases h
  | succ n ih =>
    intro x1 x2 x3 S h
    rw [r_begin_2] at h
    refine Go.iload_n 3 dX12_begin_2 rfl ?_
    refine Go.bipush 40 dX12_begin_3 (by decide) ?_
    refine Go.icmp_ge 21 dX12_begin_5 (by decide) h (fun h => ?_) (fun h => ?_)
    · refine Go.aload_n 0 dX12_begin_21 rfl ?_
      refine Go.iconst 0 dX12_begin_22 (by decide) ?_
      refine GM.puti 26 (by decide) rfl fl_founds rfl rfl rfl rfl dX12_begin_23 ?_
      refine Go.aload_n 0 dX12_begin_26 rfl ?_
      refine Go.iconst 0 dX12_begin_27 (by decide) ?_
      refine GM.puti 27 (by decide) rfl fl_costs rfl rfl rfl rfl dX12_begin_28 ?_
      refine Go.aload_n 0 dX12_begin_31 rfl ?_
      refine Go.iconst 0 dX12_begin_32 (by decide) ?_
      refine GM.puti 28 (by decide) rfl fl_spared rfl rfl rfl rfl dX12_begin_33 ?_
      refine Go.aload_n 0 dX12_begin_36 rfl ?_
      refine Go.iconst 0 dX12_begin_37 (by decide) ?_
      refine GM.puti 29 (by decide) rfl fl_looked rfl rfl rfl rfl dX12_begin_38 ?_
      refine Go.aload_n 0 dX12_begin_41 rfl ?_
      refine Go.iload_n 2 dX12_begin_42 rfl ?_
      refine GM.puti 30 (by decide) rfl fl_asker rfl rfl rfl rfl dX12_begin_43 ?_
      refine Go.aload_n 0 dX12_begin_46 rfl ?_
      refine Go.iload_n 1 dX12_begin_47 rfl ?_
      refine GM.puti 31 (by decide) rfl fl_askedWord rfl rfl rfl rfl dX12_begin_48 ?_
      refine Go.aload_n 0 dX12_begin_51 rfl ?_
      refine Go.iconst 1 dX12_begin_52 (by decide) ?_
      refine GM.puti 33 (by decide) rfl fl_isAsked rfl rfl rfl rfl dX12_begin_53 ?_
      cases h
      exact Go.vret dX12_begin_56 rfl
    · refine Go.aload_n 0 dX12_begin_8 rfl ?_
      refine GM.geta 24 17 (by decide) rfl fl_measured rfl dX12_begin_9 ?_
      refine Go.iload_n 3 dX12_begin_12 rfl ?_
      refine Go.iconst (-1) dX12_begin_13 (by decide) ?_
      refine GM.iast 17 (by decide) rfl dX12_begin_14 h (fun S1 h => ?_)
      refine Go.iinc (w := 1) 3 [(0, .ref κ.o), (1, .int x1), (2, .int x2), (3, .int (x3 + 1))] dX12_begin_15 rfl (by decide) (by decide) rfl ?_
      refine Go.goto 2 dX12_begin_18 (by decide) ?_
      exact ih _ _ _ _ h
set_option maxRecDepth 20000 in
theorem rs_begin {l : Launch} {κ : KMt} {S : MS} {Z : MS} (x1 : Int32) (x2 : Int32) (h : r_begin S x1 x2 = some Z) : Go l (EM κ) RX12 cX12_begin 4 none 0 0 0 0 none Z 0 [(0, .ref κ.o), (1, .int x1), (2, .int x2)] [] S := by
  unfold r_begin at h
  refine Go.iconst 0 dX12_begin_0 (by decide) ?_
  refine Go.istore_n [(0, .ref κ.o), (1, .int x1), (2, .int x2), (3, .int 0)] dX12_begin_1 (by decide) rfl ?_
  exact rs_begin_2 _ _ _ _ _ h
set_option maxRecDepth 20000 in
theorem rt_begin {l : Launch} {κ : KMt} {S : MS} (x1 : Int32) (x2 : Int32) : ∀ Z, r_begin S x1 x2 = some Z → MtM l κ yX12_begin cX12_begin 4 none 0 0 [.ref κ.o, .int x1, .int x2] S none Z := fun Z h => MtM.of (by decide +kernel) rfl (Nat.le_of_ble_eq_true rfl) ⟨rfl, rfl, rfl, trivial⟩ (rs_begin x1 x2 h)
/-! wayTo -/
def r_wayTo_59  (x1 : Int32) (S : MS) : Option (Int32 × MS) := (rd S 17 x1).bind (fun v1 => some (v1, S))
def r_wayTo_48  (x1 : Int32) (y1 : Int32) (y2 : Int32) (S : MS) : Option (Int32 × MS) := (wr S 17 y1 y2).bind (fun S2 => r_wayTo_59 x1 (pf S2 27 ((S2.2 27) + 1)))
def r_wayTo (S : MS) (x1 : Int32) : Option (Int32 × MS) := (rd S 17 x1).bind (fun v3 => if v3 = (-1) then if (S.2 30) = (-1) then (r_wordOf S x1).bind (fun v6 => bd2 (r_apartOf S (S.2 31) v6) (fun v7 S8 => r_wayTo_48 x1 x1 v7 S8)) else bd2 (r_farOf S (S.2 30) x1) (fun v4 S5 => r_wayTo_48 x1 x1 v4 S5) else r_wayTo_59 x1 S)
set_option maxRecDepth 20000 in
theorem rs_wayTo_59 {l : Launch} {κ : KMt} {Z : Int32 × MS} (x1 : Int32) (S : MS) (h : r_wayTo_59 x1 S = some Z) : Go l (EM κ) RX12 cX12_wayTo 2 (some .int) 6 143 0 0 (some (.int Z.1)) Z.2 59 [(0, .ref κ.o), (1, .int x1)] [] S := by
  unfold r_wayTo_59 at h
  refine Go.aload_n 0 dX12_wayTo_59 rfl ?_
  refine GM.geta 24 17 (by decide) rfl fl_measured rfl dX12_wayTo_60 ?_
  refine Go.iload_n 1 dX12_wayTo_63 rfl ?_
  refine GM.iald 17 (by decide) rfl dX12_wayTo_64 h (fun v1 h => ?_)
  cases h
  exact Go.iret dX12_wayTo_65 rfl
set_option maxRecDepth 20000 in
theorem rs_wayTo_48 {l : Launch} {κ : KMt} {Z : Int32 × MS} (x1 : Int32) (y1 : Int32) (y2 : Int32) (S : MS) (h : r_wayTo_48 x1 y1 y2 S = some Z) : Go l (EM κ) RX12 cX12_wayTo 2 (some .int) 6 143 0 0 (some (.int Z.1)) Z.2 48 [(0, .ref κ.o), (1, .int x1)] [.int y2, .int y1, .ref (κ.o + 1 + 17)] S := by
  unfold r_wayTo_48 at h
  refine GM.iast 17 (by decide) rfl dX12_wayTo_48 h (fun S2 h => ?_)
  refine Go.aload_n 0 dX12_wayTo_49 rfl ?_
  refine Go.dup dX12_wayTo_50 rfl ?_
  refine GM.geti 27 (by decide) rfl fl_costs rfl dX12_wayTo_51 ?_
  refine Go.iconst 1 dX12_wayTo_54 (by decide) ?_
  refine Go.iadd dX12_wayTo_55 ?_
  refine GM.puti 27 (by decide) rfl fl_costs rfl rfl rfl rfl dX12_wayTo_56 ?_
  exact rs_wayTo_59 _ _ h
set_option maxRecDepth 20000 in
theorem rs_wayTo {l : Launch} {κ : KMt} {S : MS} {Z : Int32 × MS} (x1 : Int32) (h : r_wayTo S x1 = some Z) : Go l (EM κ) RX12 cX12_wayTo 2 (some .int) 6 143 0 0 (some (.int Z.1)) Z.2 0 [(0, .ref κ.o), (1, .int x1)] [] S := by
  unfold r_wayTo at h
  refine Go.aload_n 0 dX12_wayTo_0 rfl ?_
  refine GM.geta 24 17 (by decide) rfl fl_measured rfl dX12_wayTo_1 ?_
  refine Go.iload_n 1 dX12_wayTo_4 rfl ?_
  refine GM.iald 17 (by decide) rfl dX12_wayTo_5 h (fun v3 h => ?_)
  refine Go.iconst (-1) dX12_wayTo_6 (by decide) ?_
  refine Go.icmp_ne 59 dX12_wayTo_7 (by decide) h (fun h => ?_) (fun h => ?_)
  · exact rs_wayTo_59 _ _ h
  · refine Go.aload_n 0 dX12_wayTo_10 rfl ?_
    refine GM.geta 24 17 (by decide) rfl fl_measured rfl dX12_wayTo_11 ?_
    refine Go.iload_n 1 dX12_wayTo_14 rfl ?_
    refine Go.aload_n 0 dX12_wayTo_15 rfl ?_
    refine GM.geti 30 (by decide) rfl fl_asker rfl dX12_wayTo_16 ?_
    refine Go.iconst (-1) dX12_wayTo_19 (by decide) ?_
    refine Go.icmp_ne 39 dX12_wayTo_20 (by decide) h (fun h => ?_) (fun h => ?_)
    · refine Go.aload_n 0 dX12_wayTo_39 rfl ?_
      refine Go.aload_n 0 dX12_wayTo_40 rfl ?_
      refine GM.geti 30 (by decide) rfl fl_asker rfl dX12_wayTo_41 ?_
      refine Go.iload_n 1 dX12_wayTo_44 rfl ?_
      refine GM.callvw (rest := [.int x1, .ref (κ.o + 1 + 17)]) [.int (S.2 30), .int x1] dX12_wayTo_45 ck_farOf ci_farOf (rt_farOf _ _) rfl rfl (Nat.le_of_ble_eq_true rfl) (Nat.le_of_ble_eq_true rfl) (Nat.le_of_ble_eq_true rfl) h (fun v4 S5 h => ?_)
      exact rs_wayTo_48 _ _ _ _ h
    · refine Go.aload_n 0 dX12_wayTo_23 rfl ?_
      refine Go.aload_n 0 dX12_wayTo_24 rfl ?_
      refine GM.geti 31 (by decide) rfl fl_askedWord rfl dX12_wayTo_25 ?_
      refine Go.aload_n 0 dX12_wayTo_28 rfl ?_
      refine Go.iload_n 1 dX12_wayTo_29 rfl ?_
      refine GM.callvr (rest := [.int (S.2 31), .ref κ.o, .int x1, .ref (κ.o + 1 + 17)]) [.int x1] dX12_wayTo_30 ck_wordOf ci_wordOf (rt_wordOf _) rfl rfl (Nat.le_of_ble_eq_true rfl) (Nat.le_of_ble_eq_true rfl) (Nat.le_of_ble_eq_true rfl) h (fun v6 h => ?_)
      refine GM.callvw (rest := [.int x1, .ref (κ.o + 1 + 17)]) [.int (S.2 31), .int v6] dX12_wayTo_33 ck_apartOf ci_apartOf (rt_apartOf _ _) rfl rfl (Nat.le_of_ble_eq_true rfl) (Nat.le_of_ble_eq_true rfl) (Nat.le_of_ble_eq_true rfl) h (fun v7 S8 h => ?_)
      refine Go.goto 48 dX12_wayTo_36 (by decide) ?_
      exact rs_wayTo_48 _ _ _ _ h
set_option maxRecDepth 20000 in
theorem rt_wayTo {l : Launch} {κ : KMt} {S : MS} (x1 : Int32) : ∀ Z, r_wayTo S x1 = some Z → MtM l κ yX12_wayTo cX12_wayTo 2 (some .int) 6 143 [.ref κ.o, .int x1] S (some (.int Z.1)) Z.2 := fun Z h => MtM.of (by decide +kernel) rfl (Nat.le_of_ble_eq_true rfl) ⟨rfl, rfl, trivial⟩ (rs_wayTo x1 h)
