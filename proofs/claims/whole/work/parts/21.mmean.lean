def r_mean_57 (k6 : Int32 → Int32 → Int32 → MS → Option (Int32 × MS)) (k17 : Int32 → Int32 → Int32 → Int32 → MS → Option (Int32 × MS)) (x1 : Int32) (x2 : Int32) (x3 : Int32) (x4 : Int32) (S : MS) : Option (Int32 × MS) := k17 x1 x2 x3 (x4 + 1) S
def r_mean_17 (k6 : Int32 → Int32 → Int32 → MS → Option (Int32 × MS)) : Nat → Int32 → Int32 → Int32 → Int32 → MS → Option (Int32 × MS)
  | 0, _, _, _, _, _ => none
  | n + 1, x1, x2, x3, x4, S => if 40 ≤ x4 then k6 x1 x2 (x3 + 1) S else (r_isThing S x3).bind (fun v1 => if v1 = 0 then r_mean_57 k6 (r_mean_17 k6 n) x1 x2 x3 x4 S else (r_isThing S x4).bind (fun v2 => if v2 = 0 then r_mean_57 k6 (r_mean_17 k6 n) x1 x2 x3 x4 S else bd2 (r_farOf S x3 x4) (fun v3 S4 => r_mean_57 k6 (r_mean_17 k6 n) (x1 + v3) (x2 + 1) x3 x4 S4)))
def r_mean_6  : Nat → Int32 → Int32 → Int32 → MS → Option (Int32 × MS)
  | 0, _, _, _, _ => none
  | n + 1, x1, x2, x3, S => if 40 ≤ x3 then if x2 = 0 then some (0, S) else (fop (FP.fdiv (FP.i2f x1) (FP.i2f x2))).bind (fun v5 => (r_bits v5).bind (fun v6 => some (v6, S))) else r_mean_17 (r_mean_6 n) FU x1 x2 x3 (x3 + 1) S
def r_mean (S : MS)  : Option (Int32 × MS) := r_mean_6 FU 0 0 0 S
set_option maxRecDepth 20000 in
theorem rs_mean_57 {l : Launch} {κ : KMt} {Z : Int32 × MS} (k6 : Int32 → Int32 → Int32 → MS → Option (Int32 × MS)) (h6 : ∀ (x1 : Int32) (x2 : Int32) (x3 : Int32) (S : MS), k6 x1 x2 x3 S = some Z → Go l (EM κ) RX12 cX12_mean 5 (some .int) 6 143 0 0 (some (.int Z.1)) Z.2 6 [(0, .ref κ.o), (1, .int x1), (2, .int x2), (3, .int x3)] [] S) (k17 : Int32 → Int32 → Int32 → Int32 → MS → Option (Int32 × MS)) (h17 : ∀ (x1 : Int32) (x2 : Int32) (x3 : Int32) (x4 : Int32) (S : MS), k17 x1 x2 x3 x4 S = some Z → Go l (EM κ) RX12 cX12_mean 5 (some .int) 6 143 0 0 (some (.int Z.1)) Z.2 17 [(0, .ref κ.o), (1, .int x1), (2, .int x2), (3, .int x3), (4, .int x4)] [] S) (x1 : Int32) (x2 : Int32) (x3 : Int32) (x4 : Int32) (S : MS) (h : r_mean_57 k6 k17 x1 x2 x3 x4 S = some Z) : Go l (EM κ) RX12 cX12_mean 5 (some .int) 6 143 0 0 (some (.int Z.1)) Z.2 57 [(0, .ref κ.o), (1, .int x1), (2, .int x2), (3, .int x3), (4, .int x4)] [] S := by
  unfold r_mean_57 at h
  refine Go.iinc (w := 1) 4 [(0, .ref κ.o), (1, .int x1), (2, .int x2), (3, .int x3), (4, .int (x4 + 1))] dX12_mean_57 rfl (by decide) (by decide) rfl ?_
  refine Go.goto 17 dX12_mean_60 (by decide) ?_
  exact h17 _ _ _ _ _ h
set_option maxRecDepth 20000 in
theorem rs_mean_17 {l : Launch} {κ : KMt} {Z : Int32 × MS} (k6 : Int32 → Int32 → Int32 → MS → Option (Int32 × MS)) (h6 : ∀ (x1 : Int32) (x2 : Int32) (x3 : Int32) (S : MS), k6 x1 x2 x3 S = some Z → Go l (EM κ) RX12 cX12_mean 5 (some .int) 6 143 0 0 (some (.int Z.1)) Z.2 6 [(0, .ref κ.o), (1, .int x1), (2, .int x2), (3, .int x3)] [] S) (n : Nat) : ∀ (x1 : Int32) (x2 : Int32) (x3 : Int32) (x4 : Int32) (S : MS), r_mean_17 k6 n x1 x2 x3 x4 S = some Z → Go l (EM κ) RX12 cX12_mean 5 (some .int) 6 143 0 0 (some (.int Z.1)) Z.2 17 [(0, .ref κ.o), (1, .int x1), (2, .int x2), (3, .int x3), (4, .int x4)] [] S := by
  induction n with
  | zero => intro x1 x2 x3 x4 S h; rw [r_mean_17] at h; cases h
  | succ n ih =>
    intro x1 x2 x3 x4 S h
    rw [r_mean_17] at h
    refine Go.iload 4 dX12_mean_17 rfl ?_
    refine Go.bipush 40 dX12_mean_19 (by decide) ?_
    refine Go.icmp_ge 63 dX12_mean_21 (by decide) h (fun h => ?_) (fun h => ?_)
    · refine Go.iinc (w := 1) 3 [(0, .ref κ.o), (1, .int x1), (2, .int x2), (3, .int (x3 + 1)), (4, .int x4)] dX12_mean_63 rfl (by decide) (by decide) rfl ?_
      refine Go.goto 6 dX12_mean_66 (by decide) ?_
      refine Go.sub [0, 1, 2, 3] rfl ?_
      exact h6 _ _ _ _ h
    · refine Go.aload_n 0 dX12_mean_24 rfl ?_
      refine Go.iload_n 3 dX12_mean_25 rfl ?_
      refine GM.callvr (rest := []) [.int x3] dX12_mean_26 ck_isThing ci_isThing (rt_isThing _) rfl rfl (Nat.le_of_ble_eq_true rfl) (Nat.le_of_ble_eq_true rfl) (Nat.le_of_ble_eq_true rfl) h (fun v1 h => ?_)
      refine Go.if_eq 57 dX12_mean_29 (by decide) h (fun h => ?_) (fun h => ?_)
      · exact rs_mean_57 _ h6 _ ih _ _ _ _ _ h
      · refine Go.aload_n 0 dX12_mean_32 rfl ?_
        refine Go.iload 4 dX12_mean_33 rfl ?_
        refine GM.callvr (rest := []) [.int x4] dX12_mean_35 ck_isThing ci_isThing (rt_isThing _) rfl rfl (Nat.le_of_ble_eq_true rfl) (Nat.le_of_ble_eq_true rfl) (Nat.le_of_ble_eq_true rfl) h (fun v2 h => ?_)
        refine Go.if_ne 44 dX12_mean_38 (by decide) h (fun h => ?_) (fun h => ?_)
        · refine Go.iload_n 1 dX12_mean_44 rfl ?_
          refine Go.aload_n 0 dX12_mean_45 rfl ?_
          refine Go.iload_n 3 dX12_mean_46 rfl ?_
          refine Go.iload 4 dX12_mean_47 rfl ?_
          refine GM.callvw (rest := [.int x1]) [.int x3, .int x4] dX12_mean_49 ck_farOf ci_farOf (rt_farOf _ _) rfl rfl (Nat.le_of_ble_eq_true rfl) (Nat.le_of_ble_eq_true rfl) (Nat.le_of_ble_eq_true rfl) h (fun v3 S4 h => ?_)
          refine Go.iadd dX12_mean_52 ?_
          refine Go.istore_n [(0, .ref κ.o), (1, .int (x1 + v3)), (2, .int x2), (3, .int x3), (4, .int x4)] dX12_mean_53 (by decide) rfl ?_
          refine Go.iinc (w := 1) 2 [(0, .ref κ.o), (1, .int (x1 + v3)), (2, .int (x2 + 1)), (3, .int x3), (4, .int x4)] dX12_mean_54 rfl (by decide) (by decide) rfl ?_
          exact rs_mean_57 _ h6 _ ih _ _ _ _ _ h
        · refine Go.goto 57 dX12_mean_41 (by decide) ?_
          exact rs_mean_57 _ h6 _ ih _ _ _ _ _ h
set_option maxRecDepth 20000 in
theorem rs_mean_6 {l : Launch} {κ : KMt} {Z : Int32 × MS} (n : Nat) : ∀ (x1 : Int32) (x2 : Int32) (x3 : Int32) (S : MS), r_mean_6 n x1 x2 x3 S = some Z → Go l (EM κ) RX12 cX12_mean 5 (some .int) 6 143 0 0 (some (.int Z.1)) Z.2 6 [(0, .ref κ.o), (1, .int x1), (2, .int x2), (3, .int x3)] [] S := by
  induction n with
  | zero => intro x1 x2 x3 S h; rw [r_mean_6] at h; cases h
  | succ n ih =>
    intro x1 x2 x3 S h
    rw [r_mean_6] at h
    refine Go.iload_n 3 dX12_mean_6 rfl ?_
    refine Go.bipush 40 dX12_mean_7 (by decide) ?_
    refine Go.icmp_ge 69 dX12_mean_9 (by decide) h (fun h => ?_) (fun h => ?_)
    · refine Go.iload_n 2 dX12_mean_69 rfl ?_
      refine Go.if_ne 77 dX12_mean_70 (by decide) h (fun h => ?_) (fun h => ?_)
      · refine Go.iload_n 1 dX12_mean_77 rfl ?_
        refine Go.i2f dX12_mean_78 ?_
        refine Go.iload_n 2 dX12_mean_79 rfl ?_
        refine Go.i2f dX12_mean_80 ?_
        refine Go.fdiv dX12_mean_81 h (fun v5 h => ?_)
        refine GM.callsr (rest := []) [.float v5] dX12_mean_82 fk_bits fs_bits (rt_bits _) rfl rfl (Nat.le_of_ble_eq_true rfl) (Nat.le_of_ble_eq_true rfl) (Nat.le_of_ble_eq_true rfl) h (fun v6 h => ?_)
        cases h
        exact Go.iret dX12_mean_85 rfl
      · refine Go.iconst 0 dX12_mean_73 (by decide) ?_
        refine Go.goto 85 dX12_mean_74 (by decide) ?_
        cases h
        exact Go.iret dX12_mean_85 rfl
    · refine Go.iload_n 3 dX12_mean_12 rfl ?_
      refine Go.iconst 1 dX12_mean_13 (by decide) ?_
      refine Go.iadd dX12_mean_14 ?_
      refine Go.istore [(0, .ref κ.o), (1, .int x1), (2, .int x2), (3, .int x3), (4, .int (x3 + 1))] dX12_mean_15 (by decide) rfl ?_
      exact rs_mean_17 _ ih _ _ _ _ _ _ h
set_option maxRecDepth 20000 in
theorem rs_mean {l : Launch} {κ : KMt} {S : MS} {Z : Int32 × MS}  (h : r_mean S  = some Z) : Go l (EM κ) RX12 cX12_mean 5 (some .int) 6 143 0 0 (some (.int Z.1)) Z.2 0 [(0, .ref κ.o)] [] S := by
  unfold r_mean at h
  refine Go.iconst 0 dX12_mean_0 (by decide) ?_
  refine Go.istore_n [(0, .ref κ.o), (1, .int 0)] dX12_mean_1 (by decide) rfl ?_
  refine Go.iconst 0 dX12_mean_2 (by decide) ?_
  refine Go.istore_n [(0, .ref κ.o), (1, .int 0), (2, .int 0)] dX12_mean_3 (by decide) rfl ?_
  refine Go.iconst 0 dX12_mean_4 (by decide) ?_
  refine Go.istore_n [(0, .ref κ.o), (1, .int 0), (2, .int 0), (3, .int 0)] dX12_mean_5 (by decide) rfl ?_
  exact rs_mean_6 _ _ _ _ _ h
set_option maxRecDepth 20000 in
theorem rt_mean {l : Launch} {κ : KMt} {S : MS}  : ∀ Z, r_mean S  = some Z → MtM l κ yX12_mean cX12_mean 5 (some .int) 6 143 [.ref κ.o] S (some (.int Z.1)) Z.2 := fun Z h => MtM.of (by decide +kernel) rfl (Nat.le_of_ble_eq_true rfl) ⟨rfl, trivial⟩ (rs_mean  h)
