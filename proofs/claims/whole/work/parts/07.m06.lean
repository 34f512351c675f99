/-! scan -/
def r_scan_58 (k21 : Int32 → Int32 → Int32 → Int32 → MS → Option (Int32 × MS)) (x1 : Int32) (x2 : Int32) (x4 : Int32) (y0 : Int32) (y1 : Int32) (S : MS) : Option (Int32 × MS) := k21 x1 x2 (y0 + y1) (x4 + 1) S
def r_scan_57 (k21 : Int32 → Int32 → Int32 → Int32 → MS → Option (Int32 × MS)) (x1 : Int32) (x2 : Int32) (x4 : Int32) (y0 : Int32) (S : MS) : Option (Int32 × MS) := r_scan_58 k21 x1 x2 x4 y0 0 S
def r_scan_21  : Nat → Int32 → Int32 → Int32 → Int32 → MS → Option (Int32 × MS)
  | 0, _, _, _, _, _ => none
  | n + 1, x1, x2, x3, x4, S => if 40 ≤ x4 then some (x3, S) else (r_isThing S x4).bind (fun v1 => if v1 = 0 then r_scan_57 (r_scan_21 n) x1 x2 x4 x3 S else (r_wordOf S x4).bind (fun v2 => bd2 (r_apartOf S x1 v2) (fun v3 S4 => if x2 < v3 then r_scan_57 (r_scan_21 n) x1 x2 x4 x3 S4 else r_scan_58 (r_scan_21 n) x1 x2 x4 x3 1 S4)))
def r_scan (S : MS) (x1 : Int32) (x2 : Int32) : Option (Int32 × MS) := (r_isWord S x1).bind (fun v5 => if v5 = 0 then some ((-1), S) else (r_isFarNumber S x2).bind (fun v6 => if v6 = 0 then some ((-1), S) else r_scan_21 FU x1 x2 0 0 S))
set_option maxRecDepth 20000 in
theorem rs_scan_58 {l : Launch} {κ : KMt} {Z : Int32 × MS} (k21 : Int32 → Int32 → Int32 → Int32 → MS → Option (Int32 × MS)) (h21 : ∀ (x1 : Int32) (x2 : Int32) (x3 : Int32) (x4 : Int32) (S : MS), k21 x1 x2 x3 x4 S = some Z → Go l (EM κ) RX12 cX12_scan 5 (some .int) 5 120 0 0 (some (.int Z.1)) Z.2 21 [(0, .ref κ.o), (1, .int x1), (2, .int x2), (3, .int x3), (4, .int x4)] [] S) (x1 : Int32) (x2 : Int32) (x4 : Int32) (y0 : Int32) (y1 : Int32) (S : MS) (h : r_scan_58 k21 x1 x2 x4 y0 y1 S = some Z) : Go l (EM κ) RX12 cX12_scan 5 (some .int) 5 120 0 0 (some (.int Z.1)) Z.2 58 [(0, .ref κ.o), (1, .int x1), (2, .int x2), (4, .int x4)] [.int y1, .int y0] S := by
  unfold r_scan_58 at h
  refine Go.iadd dX12_scan_58 ?_
  refine Go.istore_n [(0, .ref κ.o), (1, .int x1), (2, .int x2), (3, .int (y0 + y1)), (4, .int x4)] dX12_scan_59 (by decide) rfl ?_
  refine Go.iinc (w := 1) 4 [(0, .ref κ.o), (1, .int x1), (2, .int x2), (3, .int (y0 + y1)), (4, .int (x4 + 1))] dX12_scan_60 rfl (by decide) (by decide) rfl ?_
  refine Go.goto 21 dX12_scan_63 (by decide) ?_
  exact h21 _ _ _ _ _ h
set_option maxRecDepth 20000 in
theorem rs_scan_57 {l : Launch} {κ : KMt} {Z : Int32 × MS} (k21 : Int32 → Int32 → Int32 → Int32 → MS → Option (Int32 × MS)) (h21 : ∀ (x1 : Int32) (x2 : Int32) (x3 : Int32) (x4 : Int32) (S : MS), k21 x1 x2 x3 x4 S = some Z → Go l (EM κ) RX12 cX12_scan 5 (some .int) 5 120 0 0 (some (.int Z.1)) Z.2 21 [(0, .ref κ.o), (1, .int x1), (2, .int x2), (3, .int x3), (4, .int x4)] [] S) (x1 : Int32) (x2 : Int32) (x4 : Int32) (y0 : Int32) (S : MS) (h : r_scan_57 k21 x1 x2 x4 y0 S = some Z) : Go l (EM κ) RX12 cX12_scan 5 (some .int) 5 120 0 0 (some (.int Z.1)) Z.2 57 [(0, .ref κ.o), (1, .int x1), (2, .int x2), (4, .int x4)] [.int y0] S := by
  unfold r_scan_57 at h
  refine Go.iconst 0 dX12_scan_57 (by decide) ?_
  exact rs_scan_58 _ h21 _ _ _ _ _ _ h
set_option maxRecDepth 20000 in
theorem rs_scan_21 {l : Launch} {κ : KMt} {Z : Int32 × MS} (n : Nat) : ∀ (x1 : Int32) (x2 : Int32) (x3 : Int32) (x4 : Int32) (S : MS), r_scan_21 n x1 x2 x3 x4 S = some Z → Go l (EM κ) RX12 cX12_scan 5 (some .int) 5 120 0 0 (some (.int Z.1)) Z.2 21 [(0, .ref κ.o), (1, .int x1), (2, .int x2), (3, .int x3), (4, .int x4)] [] S := by
  induction n with
  | zero => intro x1 x2 x3 x4 S h; rw [r_scan_21] at h; cases h
  | succ n ih =>
    intro x1 x2 x3 x4 S h
    rw [r_scan_21] at h
    refine Go.iload 4 dX12_scan_21 rfl ?_
    refine Go.bipush 40 dX12_scan_23 (by decide) ?_
    refine Go.icmp_ge 66 dX12_scan_25 (by decide) h (fun h => ?_) (fun h => ?_)
    · refine Go.iload_n 3 dX12_scan_66 rfl ?_
      cases h
      exact Go.iret dX12_scan_67 rfl
    · refine Go.iload_n 3 dX12_scan_28 rfl ?_
      refine Go.aload_n 0 dX12_scan_29 rfl ?_
      refine Go.iload 4 dX12_scan_30 rfl ?_
      refine GM.callvr (rest := [.int x3]) [.int x4] dX12_scan_32 ck_isThing ci_isThing (rt_isThing _) rfl rfl (Nat.le_of_ble_eq_true rfl) (Nat.le_of_ble_eq_true rfl) (Nat.le_of_ble_eq_true rfl) h (fun v1 h => ?_)
      refine Go.if_eq 57 dX12_scan_35 (by decide) h (fun h => ?_) (fun h => ?_)
      · refine Go.sub [0, 1, 2, 4] rfl ?_
        exact rs_scan_57 _ ih _ _ _ _ _ h
      · refine Go.aload_n 0 dX12_scan_38 rfl ?_
        refine Go.iload_n 1 dX12_scan_39 rfl ?_
        refine Go.aload_n 0 dX12_scan_40 rfl ?_
        refine Go.iload 4 dX12_scan_41 rfl ?_
        refine GM.callvr (rest := [.int x1, .ref κ.o, .int x3]) [.int x4] dX12_scan_43 ck_wordOf ci_wordOf (rt_wordOf _) rfl rfl (Nat.le_of_ble_eq_true rfl) (Nat.le_of_ble_eq_true rfl) (Nat.le_of_ble_eq_true rfl) h (fun v2 h => ?_)
        refine GM.callvw (rest := [.int x3]) [.int x1, .int v2] dX12_scan_46 ck_apartOf ci_apartOf (rt_apartOf _ _) rfl rfl (Nat.le_of_ble_eq_true rfl) (Nat.le_of_ble_eq_true rfl) (Nat.le_of_ble_eq_true rfl) h (fun v3 S4 h => ?_)
        refine Go.iload_n 2 dX12_scan_49 rfl ?_
        refine Go.icmp_gt 57 dX12_scan_50 (by decide) h (fun h => ?_) (fun h => ?_)
        · refine Go.sub [0, 1, 2, 4] rfl ?_
          exact rs_scan_57 _ ih _ _ _ _ _ h
        · refine Go.iconst 1 dX12_scan_53 (by decide) ?_
          refine Go.goto 58 dX12_scan_54 (by decide) ?_
          refine Go.sub [0, 1, 2, 4] rfl ?_
          exact rs_scan_58 _ ih _ _ _ _ _ _ h
set_option maxRecDepth 20000 in
theorem rs_scan {l : Launch} {κ : KMt} {S : MS} {Z : Int32 × MS} (x1 : Int32) (x2 : Int32) (h : r_scan S x1 x2 = some Z) : Go l (EM κ) RX12 cX12_scan 5 (some .int) 5 120 0 0 (some (.int Z.1)) Z.2 0 [(0, .ref κ.o), (1, .int x1), (2, .int x2)] [] S := by
  unfold r_scan at h
  refine Go.iload_n 1 dX12_scan_0 rfl ?_
  refine GM.callsr (rest := []) [.int x1] dX12_scan_1 ck_isWord ci_isWord (rt_isWord _) rfl rfl (Nat.le_of_ble_eq_true rfl) (Nat.le_of_ble_eq_true rfl) (Nat.le_of_ble_eq_true rfl) h (fun v5 h => ?_)
  refine Go.if_eq 14 dX12_scan_4 (by decide) h (fun h => ?_) (fun h => ?_)
  · refine Go.iconst (-1) dX12_scan_14 (by decide) ?_
    cases h
    exact Go.iret dX12_scan_15 rfl
  · refine Go.iload_n 2 dX12_scan_7 rfl ?_
    refine GM.callsr (rest := []) [.int x2] dX12_scan_8 ck_isFarNumber ci_isFarNumber (rt_isFarNumber _) rfl rfl (Nat.le_of_ble_eq_true rfl) (Nat.le_of_ble_eq_true rfl) (Nat.le_of_ble_eq_true rfl) h (fun v6 h => ?_)
    refine Go.if_ne 16 dX12_scan_11 (by decide) h (fun h => ?_) (fun h => ?_)
    · refine Go.iconst 0 dX12_scan_16 (by decide) ?_
      refine Go.istore_n [(0, .ref κ.o), (1, .int x1), (2, .int x2), (3, .int 0)] dX12_scan_17 (by decide) rfl ?_
      refine Go.iconst 0 dX12_scan_18 (by decide) ?_
      refine Go.istore [(0, .ref κ.o), (1, .int x1), (2, .int x2), (3, .int 0), (4, .int 0)] dX12_scan_19 (by decide) rfl ?_
      exact rs_scan_21 _ _ _ _ _ _ h
    · refine Go.iconst (-1) dX12_scan_14 (by decide) ?_
      cases h
      exact Go.iret dX12_scan_15 rfl
set_option maxRecDepth 20000 in
theorem rt_scan {l : Launch} {κ : KMt} {S : MS} (x1 : Int32) (x2 : Int32) : ∀ Z, r_scan S x1 x2 = some Z → MtM l κ yX12_scan cX12_scan 5 (some .int) 5 120 [.ref κ.o, .int x1, .int x2] S (some (.int Z.1)) Z.2 := fun Z h => MtM.of (by decide +kernel) rfl (Nat.le_of_ble_eq_true rfl) ⟨rfl, rfl, rfl, trivial⟩ (rs_scan x1 x2 h)
/-! isBroken -/
def r_isBroken (S : MS) (x1 : Int32) (x2 : Int32) (x3 : Int32) : Option (Int32 × MS) := if x1 = 1 then bd2 (r_farOf S x2 x3) (fun v5 S6 => if v5 = 0 then (zb 1).bind (fun w => some (w, S6)) else (zb 0).bind (fun w => some (w, S6))) else if x1 = 2 then if x3 ≤ x2 then (zb 0).bind (fun w => some (w, S)) else bd2 (r_farOf S x2 x3) (fun v1 S2 => bd2 (r_farOf S2 x3 x2) (fun v3 S4 => if v1 = v3 then (zb 0).bind (fun w => some (w, S4)) else (zb 1).bind (fun w => some (w, S4)))) else (zb 0).bind (fun w => some (w, S))
set_option maxRecDepth 20000 in
theorem rs_isBroken {l : Launch} {κ : KMt} {S : MS} {Z : Int32 × MS} (x1 : Int32) (x2 : Int32) (x3 : Int32) (h : r_isBroken S x1 x2 x3 = some Z) : Go l (EM κ) RX12 cX12_isBroken 4 (some .boolean) 6 143 0 0 (some (.int Z.1)) Z.2 0 [(0, .ref κ.o), (1, .int x1), (2, .int x2), (3, .int x3)] [] S := by
  unfold r_isBroken at h
  refine Go.iload_n 1 dX12_isBroken_0 rfl ?_
  refine Go.iconst 1 dX12_isBroken_1 (by decide) ?_
  refine Go.icmp_ne 20 dX12_isBroken_2 (by decide) h (fun h => ?_) (fun h => ?_)
  · refine Go.iload_n 1 dX12_isBroken_20 rfl ?_
    refine Go.iconst 2 dX12_isBroken_21 (by decide) ?_
    refine Go.icmp_ne 49 dX12_isBroken_22 (by decide) h (fun h => ?_) (fun h => ?_)
    · refine Go.iconst 0 dX12_isBroken_49 (by decide) ?_
      obtain ⟨w, hw, h⟩ := Option.bind_eq_some_iff.mp h
      cases h
      exact Go.zret dX12_isBroken_50 rfl hw
    · refine Go.iload_n 2 dX12_isBroken_25 rfl ?_
      refine Go.iload_n 3 dX12_isBroken_26 rfl ?_
      refine Go.icmp_ge 49 dX12_isBroken_27 (by decide) h (fun h => ?_) (fun h => ?_)
      · refine Go.iconst 0 dX12_isBroken_49 (by decide) ?_
        obtain ⟨w, hw, h⟩ := Option.bind_eq_some_iff.mp h
        cases h
        exact Go.zret dX12_isBroken_50 rfl hw
      · refine Go.aload_n 0 dX12_isBroken_30 rfl ?_
        refine Go.iload_n 2 dX12_isBroken_31 rfl ?_
        refine Go.iload_n 3 dX12_isBroken_32 rfl ?_
        refine GM.callvw (rest := []) [.int x2, .int x3] dX12_isBroken_33 ck_farOf ci_farOf (rt_farOf _ _) rfl rfl (Nat.le_of_ble_eq_true rfl) (Nat.le_of_ble_eq_true rfl) (Nat.le_of_ble_eq_true rfl) h (fun v1 S2 h => ?_)
        refine Go.aload_n 0 dX12_isBroken_36 rfl ?_
        refine Go.iload_n 3 dX12_isBroken_37 rfl ?_
        refine Go.iload_n 2 dX12_isBroken_38 rfl ?_
        refine GM.callvw (rest := [.int v1]) [.int x3, .int x2] dX12_isBroken_39 ck_farOf ci_farOf (rt_farOf _ _) rfl rfl (Nat.le_of_ble_eq_true rfl) (Nat.le_of_ble_eq_true rfl) (Nat.le_of_ble_eq_true rfl) h (fun v3 S4 h => ?_)
        refine Go.icmp_eq 49 dX12_isBroken_42 (by decide) h (fun h => ?_) (fun h => ?_)
        · refine Go.iconst 0 dX12_isBroken_49 (by decide) ?_
          obtain ⟨w, hw, h⟩ := Option.bind_eq_some_iff.mp h
          cases h
          exact Go.zret dX12_isBroken_50 rfl hw
        · refine Go.iconst 1 dX12_isBroken_45 (by decide) ?_
          refine Go.goto 50 dX12_isBroken_46 (by decide) ?_
          obtain ⟨w, hw, h⟩ := Option.bind_eq_some_iff.mp h
          cases h
          exact Go.zret dX12_isBroken_50 rfl hw
  · refine Go.aload_n 0 dX12_isBroken_5 rfl ?_
    refine Go.iload_n 2 dX12_isBroken_6 rfl ?_
    refine Go.iload_n 3 dX12_isBroken_7 rfl ?_
    refine GM.callvw (rest := []) [.int x2, .int x3] dX12_isBroken_8 ck_farOf ci_farOf (rt_farOf _ _) rfl rfl (Nat.le_of_ble_eq_true rfl) (Nat.le_of_ble_eq_true rfl) (Nat.le_of_ble_eq_true rfl) h (fun v5 S6 h => ?_)
    refine Go.if_ne 18 dX12_isBroken_11 (by decide) h (fun h => ?_) (fun h => ?_)
    · refine Go.iconst 0 dX12_isBroken_18 (by decide) ?_
      obtain ⟨w, hw, h⟩ := Option.bind_eq_some_iff.mp h
      cases h
      exact Go.zret dX12_isBroken_19 rfl hw
    · refine Go.iconst 1 dX12_isBroken_14 (by decide) ?_
      refine Go.goto 19 dX12_isBroken_15 (by decide) ?_
      obtain ⟨w, hw, h⟩ := Option.bind_eq_some_iff.mp h
      cases h
      exact Go.zret dX12_isBroken_19 rfl hw
set_option maxRecDepth 20000 in
theorem rt_isBroken {l : Launch} {κ : KMt} {S : MS} (x1 : Int32) (x2 : Int32) (x3 : Int32) : ∀ Z, r_isBroken S x1 x2 x3 = some Z → MtM l κ yX12_isBroken cX12_isBroken 4 (some .boolean) 6 143 [.ref κ.o, .int x1, .int x2, .int x3] S (some (.int Z.1)) Z.2 := fun Z h => MtM.of (by decide +kernel) rfl (Nat.le_of_ble_eq_true rfl) ⟨rfl, rfl, rfl, rfl, trivial⟩ (rs_isBroken x1 x2 x3 h)
/-! findThird -/
def r_findThird_70 (k10 : Int32 → Int32 → Int32 → Int32 → MS → Option (Int32 × MS)) (x1 : Int32) (x2 : Int32) (x3 : Int32) (x4 : Int32) (S : MS) : Option (Int32 × MS) := k10 x1 x2 x3 (x4 + 1) S
def r_findThird_10  : Nat → Int32 → Int32 → Int32 → Int32 → MS → Option (Int32 × MS)
  | 0, _, _, _, _, _ => none
  | n + 1, x1, x2, x3, x4, S => if 40 ≤ x4 then (zb 0).bind (fun w => some (w, S)) else (r_isThing S x4).bind (fun v1 => if v1 = 0 then r_findThird_70 (r_findThird_10 n) x1 x2 x3 x4 S else if x4 = x1 then r_findThird_70 (r_findThird_10 n) x1 x2 x3 x4 S else if x4 = x2 then r_findThird_70 (r_findThird_10 n) x1 x2 x3 x4 S else bd2 (r_farOf S x1 x4) (fun v2 S3 => bd2 (r_farOf S3 x2 x4) (fun v4 S5 => if (x3 + v4) < v2 then (wr S5 22 2 x4).bind (fun S6 => (zb 1).bind (fun w => some (w, S6))) else r_findThird_70 (r_findThird_10 n) x1 x2 x3 x4 S5)))
def r_findThird (S : MS) (x1 : Int32) (x2 : Int32) : Option (Int32 × MS) := bd2 (r_farOf S x1 x2) (fun v7 S8 => r_findThird_10 FU x1 x2 v7 0 S8)
set_option maxRecDepth 20000 in
theorem rs_findThird_70 {l : Launch} {κ : KMt} {Z : Int32 × MS} (k10 : Int32 → Int32 → Int32 → Int32 → MS → Option (Int32 × MS)) (h10 : ∀ (x1 : Int32) (x2 : Int32) (x3 : Int32) (x4 : Int32) (S : MS), k10 x1 x2 x3 x4 S = some Z → Go l (EM κ) RX12 cX12_findThird 5 (some .boolean) 6 143 0 0 (some (.int Z.1)) Z.2 10 [(0, .ref κ.o), (1, .int x1), (2, .int x2), (3, .int x3), (4, .int x4)] [] S) (x1 : Int32) (x2 : Int32) (x3 : Int32) (x4 : Int32) (S : MS) (h : r_findThird_70 k10 x1 x2 x3 x4 S = some Z) : Go l (EM κ) RX12 cX12_findThird 5 (some .boolean) 6 143 0 0 (some (.int Z.1)) Z.2 70 [(0, .ref κ.o), (1, .int x1), (2, .int x2), (3, .int x3), (4, .int x4)] [] S := by
  unfold r_findThird_70 at h
  refine Go.iinc (w := 1) 4 [(0, .ref κ.o), (1, .int x1), (2, .int x2), (3, .int x3), (4, .int (x4 + 1))] dX12_findThird_70 rfl (by decide) (by decide) rfl ?_
  refine Go.goto 10 dX12_findThird_73 (by decide) ?_
  exact h10 _ _ _ _ _ h
set_option maxRecDepth 20000 in
theorem rs_findThird_10 {l : Launch} {κ : KMt} {Z : Int32 × MS} (n : Nat) : ∀ (x1 : Int32) (x2 : Int32) (x3 : Int32) (x4 : Int32) (S : MS), r_findThird_10 n x1 x2 x3 x4 S = some Z → Go l (EM κ) RX12 cX12_findThird 5 (some .boolean) 6 143 0 0 (some (.int Z.1)) Z.2 10 [(0, .ref κ.o), (1, .int x1), (2, .int x2), (3, .int x3), (4, .int x4)] [] S := by
  induction n with
  | zero => intro x1 x2 x3 x4 S h; rw [r_findThird_10] at h; cases h
  | succ n ih =>
    intro x1 x2 x3 x4 S h
    rw [r_findThird_10] at h
    refine Go.iload 4 dX12_findThird_10 rfl ?_
    refine Go.bipush 40 dX12_findThird_12 (by decide) ?_
    refine Go.icmp_ge 76 dX12_findThird_14 (by decide) h (fun h => ?_) (fun h => ?_)
    · refine Go.iconst 0 dX12_findThird_76 (by decide) ?_
      obtain ⟨w, hw, h⟩ := Option.bind_eq_some_iff.mp h
      cases h
      exact Go.zret dX12_findThird_77 rfl hw
    · refine Go.aload_n 0 dX12_findThird_17 rfl ?_
      refine Go.iload 4 dX12_findThird_18 rfl ?_
      refine GM.callvr (rest := []) [.int x4] dX12_findThird_20 ck_isThing ci_isThing (rt_isThing _) rfl rfl (Nat.le_of_ble_eq_true rfl) (Nat.le_of_ble_eq_true rfl) (Nat.le_of_ble_eq_true rfl) h (fun v1 h => ?_)
      refine Go.if_eq 70 dX12_findThird_23 (by decide) h (fun h => ?_) (fun h => ?_)
      · exact rs_findThird_70 _ ih _ _ _ _ _ h
      · refine Go.iload 4 dX12_findThird_26 rfl ?_
        refine Go.iload_n 1 dX12_findThird_28 rfl ?_
        refine Go.icmp_eq 70 dX12_findThird_29 (by decide) h (fun h => ?_) (fun h => ?_)
        · exact rs_findThird_70 _ ih _ _ _ _ _ h
        · refine Go.iload 4 dX12_findThird_32 rfl ?_
          refine Go.iload_n 2 dX12_findThird_34 rfl ?_
          refine Go.icmp_eq 70 dX12_findThird_35 (by decide) h (fun h => ?_) (fun h => ?_)
          · exact rs_findThird_70 _ ih _ _ _ _ _ h
          · refine Go.aload_n 0 dX12_findThird_38 rfl ?_
            refine Go.iload_n 1 dX12_findThird_39 rfl ?_
            refine Go.iload 4 dX12_findThird_40 rfl ?_
            refine GM.callvw (rest := []) [.int x1, .int x4] dX12_findThird_42 ck_farOf ci_farOf (rt_farOf _ _) rfl rfl (Nat.le_of_ble_eq_true rfl) (Nat.le_of_ble_eq_true rfl) (Nat.le_of_ble_eq_true rfl) h (fun v2 S3 h => ?_)
            refine Go.iload_n 3 dX12_findThird_45 rfl ?_
            refine Go.aload_n 0 dX12_findThird_46 rfl ?_
            refine Go.iload_n 2 dX12_findThird_47 rfl ?_
            refine Go.iload 4 dX12_findThird_48 rfl ?_
            refine GM.callvw (rest := [.int x3, .int v2]) [.int x2, .int x4] dX12_findThird_50 ck_farOf ci_farOf (rt_farOf _ _) rfl rfl (Nat.le_of_ble_eq_true rfl) (Nat.le_of_ble_eq_true rfl) (Nat.le_of_ble_eq_true rfl) h (fun v4 S5 h => ?_)
            refine Go.iadd dX12_findThird_53 ?_
            refine Go.icmp_gt 60 dX12_findThird_54 (by decide) h (fun h => ?_) (fun h => ?_)
            · refine Go.aload_n 0 dX12_findThird_60 rfl ?_
              refine GM.geta 38 22 (by decide) rfl fl_broke rfl dX12_findThird_61 ?_
              refine Go.iconst 2 dX12_findThird_64 (by decide) ?_
              refine Go.iload 4 dX12_findThird_65 rfl ?_
              refine GM.iast 22 (by decide) rfl dX12_findThird_67 h (fun S6 h => ?_)
              refine Go.iconst 1 dX12_findThird_68 (by decide) ?_
              obtain ⟨w, hw, h⟩ := Option.bind_eq_some_iff.mp h
              cases h
              exact Go.zret dX12_findThird_69 rfl hw
            · refine Go.goto 70 dX12_findThird_57 (by decide) ?_
              exact rs_findThird_70 _ ih _ _ _ _ _ h
set_option maxRecDepth 20000 in
theorem rs_findThird {l : Launch} {κ : KMt} {S : MS} {Z : Int32 × MS} (x1 : Int32) (x2 : Int32) (h : r_findThird S x1 x2 = some Z) : Go l (EM κ) RX12 cX12_findThird 5 (some .boolean) 6 143 0 0 (some (.int Z.1)) Z.2 0 [(0, .ref κ.o), (1, .int x1), (2, .int x2)] [] S := by
  unfold r_findThird at h
  refine Go.aload_n 0 dX12_findThird_0 rfl ?_
  refine Go.iload_n 1 dX12_findThird_1 rfl ?_
  refine Go.iload_n 2 dX12_findThird_2 rfl ?_
  refine GM.callvw (rest := []) [.int x1, .int x2] dX12_findThird_3 ck_farOf ci_farOf (rt_farOf _ _) rfl rfl (Nat.le_of_ble_eq_true rfl) (Nat.le_of_ble_eq_true rfl) (Nat.le_of_ble_eq_true rfl) h (fun v7 S8 h => ?_)
  refine Go.istore_n [(0, .ref κ.o), (1, .int x1), (2, .int x2), (3, .int v7)] dX12_findThird_6 (by decide) rfl ?_
  refine Go.iconst 0 dX12_findThird_7 (by decide) ?_
  refine Go.istore [(0, .ref κ.o), (1, .int x1), (2, .int x2), (3, .int v7), (4, .int 0)] dX12_findThird_8 (by decide) rfl ?_
  exact rs_findThird_10 _ _ _ _ _ _ h
set_option maxRecDepth 20000 in
theorem rt_findThird {l : Launch} {κ : KMt} {S : MS} (x1 : Int32) (x2 : Int32) : ∀ Z, r_findThird S x1 x2 = some Z → MtM l κ yX12_findThird cX12_findThird 5 (some .boolean) 6 143 [.ref κ.o, .int x1, .int x2] S (some (.int Z.1)) Z.2 := fun Z h => MtM.of (by decide +kernel) rfl (Nat.le_of_ble_eq_true rfl) ⟨rfl, rfl, rfl, trivial⟩ (rs_findThird x1 x2 h)
/-! findBroken -/
def r_findBroken_131 (k9 : Int32 → Int32 → MS → Option (Int32 × MS)) (k17 : Int32 → Int32 → Int32 → MS → Option (Int32 × MS)) (x1 : Int32) (x2 : Int32) (x3 : Int32) (S : MS) : Option (Int32 × MS) := k17 x1 x2 (x3 + 1) S
def r_findBroken_85 (k9 : Int32 → Int32 → MS → Option (Int32 × MS)) (k17 : Int32 → Int32 → Int32 → MS → Option (Int32 × MS)) (x1 : Int32) (x2 : Int32) (x3 : Int32) (y1 : Int32) (y2 : Int32) (S : MS) : Option (Int32 × MS) := (wr S 22 y1 y2).bind (fun S1 => if x1 = 0 then bd2 (r_farOf S1 x2 x2) (fun v6 S7 => if v6 = 0 then r_findBroken_131 k9 k17 x1 x2 x3 S7 else (zb 1).bind (fun w => some (w, S7))) else if 3 ≤ x1 then bd2 (r_findThird S1 x2 x3) (fun v2 S3 => if v2 = 0 then r_findBroken_131 k9 k17 x1 x2 x3 S3 else (zb 1).bind (fun w => some (w, S3))) else bd2 (r_isBroken S1 x1 x2 x3) (fun v4 S5 => if v4 = 0 then r_findBroken_131 k9 k17 x1 x2 x3 S5 else (zb 1).bind (fun w => some (w, S5))))
def r_findBroken_58 (k9 : Int32 → Int32 → MS → Option (Int32 × MS)) (k17 : Int32 → Int32 → Int32 → MS → Option (Int32 × MS)) (x1 : Int32) (x2 : Int32) (x3 : Int32) (y0 : Int32) (y1 : Int32) (S : MS) : Option (Int32 × MS) := if y0 = y1 then (wr S 22 0 x2).bind (fun S8 => if x1 = 0 then r_findBroken_85 k9 k17 x1 x2 x3 1 (-1) S8 else r_findBroken_85 k9 k17 x1 x2 x3 1 x3 S8) else r_findBroken_131 k9 k17 x1 x2 x3 S
def r_findBroken_49 (k9 : Int32 → Int32 → MS → Option (Int32 × MS)) (k17 : Int32 → Int32 → Int32 → MS → Option (Int32 × MS)) (x1 : Int32) (x2 : Int32) (x3 : Int32) (y0 : Int32) (S : MS) : Option (Int32 × MS) := if x1 = 0 then r_findBroken_58 k9 k17 x1 x2 x3 y0 1 S else r_findBroken_58 k9 k17 x1 x2 x3 y0 0 S
def r_findBroken_17 (k9 : Int32 → Int32 → MS → Option (Int32 × MS)) : Nat → Int32 → Int32 → Int32 → MS → Option (Int32 × MS)
  | 0, _, _, _, _ => none
  | n + 1, x1, x2, x3, S => if 40 ≤ x3 then k9 x1 (x2 + 1) S else (r_isThing S x2).bind (fun v9 => if v9 = 0 then r_findBroken_131 k9 (r_findBroken_17 k9 n) x1 x2 x3 S else (r_isThing S x3).bind (fun v10 => if v10 = 0 then r_findBroken_131 k9 (r_findBroken_17 k9 n) x1 x2 x3 S else if x2 = x3 then r_findBroken_49 k9 (r_findBroken_17 k9 n) x1 x2 x3 1 S else r_findBroken_49 k9 (r_findBroken_17 k9 n) x1 x2 x3 0 S))
def r_findBroken_9  : Nat → Int32 → Int32 → MS → Option (Int32 × MS)
  | 0, _, _, _ => none
  | n + 1, x1, x2, S => if 40 ≤ x2 then (zb 0).bind (fun w => some (w, S)) else r_findBroken_17 (r_findBroken_9 n) FU x1 x2 0 S
def r_findBroken (S : MS) (x1 : Int32) : Option (Int32 × MS) := (wr S 22 2 (-1)).bind (fun S11 => r_findBroken_9 FU x1 0 S11)
set_option maxRecDepth 20000 in
theorem rs_findBroken_131 {l : Launch} {κ : KMt} {Z : Int32 × MS} (k9 : Int32 → Int32 → MS → Option (Int32 × MS)) (h9 : ∀ (x1 : Int32) (x2 : Int32) (S : MS), k9 x1 x2 S = some Z → Go l (EM κ) RX12 cX12_findBroken 4 (some .boolean) 7 167 0 0 (some (.int Z.1)) Z.2 9 [(0, .ref κ.o), (1, .int x1), (2, .int x2)] [] S) (k17 : Int32 → Int32 → Int32 → MS → Option (Int32 × MS)) (h17 : ∀ (x1 : Int32) (x2 : Int32) (x3 : Int32) (S : MS), k17 x1 x2 x3 S = some Z → Go l (EM κ) RX12 cX12_findBroken 4 (some .boolean) 7 167 0 0 (some (.int Z.1)) Z.2 17 [(0, .ref κ.o), (1, .int x1), (2, .int x2), (3, .int x3)] [] S) (x1 : Int32) (x2 : Int32) (x3 : Int32) (S : MS) (h : r_findBroken_131 k9 k17 x1 x2 x3 S = some Z) : Go l (EM κ) RX12 cX12_findBroken 4 (some .boolean) 7 167 0 0 (some (.int Z.1)) Z.2 131 [(0, .ref κ.o), (1, .int x1), (2, .int x2), (3, .int x3)] [] S := by
  unfold r_findBroken_131 at h
  refine Go.iinc (w := 1) 3 [(0, .ref κ.o), (1, .int x1), (2, .int x2), (3, .int (x3 + 1))] dX12_findBroken_131 rfl (by decide) (by decide) rfl ?_
  refine Go.goto 17 dX12_findBroken_134 (by decide) ?_
  exact h17 _ _ _ _ h
set_option maxRecDepth 20000 in
theorem rs_findBroken_85 {l : Launch} {κ : KMt} {Z : Int32 × MS} (k9 : Int32 → Int32 → MS → Option (Int32 × MS)) (h9 : ∀ (x1 : Int32) (x2 : Int32) (S : MS), k9 x1 x2 S = some Z → Go l (EM κ) RX12 cX12_findBroken 4 (some .boolean) 7 167 0 0 (some (.int Z.1)) Z.2 9 [(0, .ref κ.o), (1, .int x1), (2, .int x2)] [] S) (k17 : Int32 → Int32 → Int32 → MS → Option (Int32 × MS)) (h17 : ∀ (x1 : Int32) (x2 : Int32) (x3 : Int32) (S : MS), k17 x1 x2 x3 S = some Z → Go l (EM κ) RX12 cX12_findBroken 4 (some .boolean) 7 167 0 0 (some (.int Z.1)) Z.2 17 [(0, .ref κ.o), (1, .int x1), (2, .int x2), (3, .int x3)] [] S) (x1 : Int32) (x2 : Int32) (x3 : Int32) (y1 : Int32) (y2 : Int32) (S : MS) (h : r_findBroken_85 k9 k17 x1 x2 x3 y1 y2 S = some Z) : Go l (EM κ) RX12 cX12_findBroken 4 (some .boolean) 7 167 0 0 (some (.int Z.1)) Z.2 85 [(0, .ref κ.o), (1, .int x1), (2, .int x2), (3, .int x3)] [.int y2, .int y1, .ref (κ.o + 1 + 22)] S := by
  unfold r_findBroken_85 at h
  refine GM.iast 22 (by decide) rfl dX12_findBroken_85 h (fun S1 h => ?_)
  refine Go.iload_n 1 dX12_findBroken_86 rfl ?_
  refine Go.if_ne 102 dX12_findBroken_87 (by decide) h (fun h => ?_) (fun h => ?_)
  · refine Go.iload_n 1 dX12_findBroken_102 rfl ?_
    refine Go.iconst 3 dX12_findBroken_103 (by decide) ?_
    refine Go.icmp_ge 120 dX12_findBroken_104 (by decide) h (fun h => ?_) (fun h => ?_)
    · refine Go.aload_n 0 dX12_findBroken_120 rfl ?_
      refine Go.iload_n 2 dX12_findBroken_121 rfl ?_
      refine Go.iload_n 3 dX12_findBroken_122 rfl ?_
      refine GM.callvw (rest := []) [.int x2, .int x3] dX12_findBroken_123 ck_findThird ci_findThird (rt_findThird _ _) rfl rfl (Nat.le_of_ble_eq_true rfl) (Nat.le_of_ble_eq_true rfl) (Nat.le_of_ble_eq_true rfl) h (fun v2 S3 h => ?_)
      refine Go.if_eq 131 dX12_findBroken_126 (by decide) h (fun h => ?_) (fun h => ?_)
      · exact rs_findBroken_131 _ h9 _ h17 _ _ _ _ h
      · refine Go.iconst 1 dX12_findBroken_129 (by decide) ?_
        obtain ⟨w, hw, h⟩ := Option.bind_eq_some_iff.mp h
        cases h
        exact Go.zret dX12_findBroken_130 rfl hw
    · refine Go.aload_n 0 dX12_findBroken_107 rfl ?_
      refine Go.iload_n 1 dX12_findBroken_108 rfl ?_
      refine Go.iload_n 2 dX12_findBroken_109 rfl ?_
      refine Go.iload_n 3 dX12_findBroken_110 rfl ?_
      refine GM.callvw (rest := []) [.int x1, .int x2, .int x3] dX12_findBroken_111 ck_isBroken ci_isBroken (rt_isBroken _ _ _) rfl rfl (Nat.le_of_ble_eq_true rfl) (Nat.le_of_ble_eq_true rfl) (Nat.le_of_ble_eq_true rfl) h (fun v4 S5 h => ?_)
      refine Go.if_eq 131 dX12_findBroken_114 (by decide) h (fun h => ?_) (fun h => ?_)
      · exact rs_findBroken_131 _ h9 _ h17 _ _ _ _ h
      · refine Go.goto 129 dX12_findBroken_117 (by decide) ?_
        refine Go.iconst 1 dX12_findBroken_129 (by decide) ?_
        obtain ⟨w, hw, h⟩ := Option.bind_eq_some_iff.mp h
        cases h
        exact Go.zret dX12_findBroken_130 rfl hw
  · refine Go.aload_n 0 dX12_findBroken_90 rfl ?_
    refine Go.iload_n 2 dX12_findBroken_91 rfl ?_
    refine Go.iload_n 2 dX12_findBroken_92 rfl ?_
    refine GM.callvw (rest := []) [.int x2, .int x2] dX12_findBroken_93 ck_farOf ci_farOf (rt_farOf _ _) rfl rfl (Nat.le_of_ble_eq_true rfl) (Nat.le_of_ble_eq_true rfl) (Nat.le_of_ble_eq_true rfl) h (fun v6 S7 h => ?_)
    refine Go.if_eq 131 dX12_findBroken_96 (by decide) h (fun h => ?_) (fun h => ?_)
    · exact rs_findBroken_131 _ h9 _ h17 _ _ _ _ h
    · refine Go.goto 129 dX12_findBroken_99 (by decide) ?_
      refine Go.iconst 1 dX12_findBroken_129 (by decide) ?_
      obtain ⟨w, hw, h⟩ := Option.bind_eq_some_iff.mp h
      cases h
      exact Go.zret dX12_findBroken_130 rfl hw
set_option maxRecDepth 20000 in
theorem rs_findBroken_58 {l : Launch} {κ : KMt} {Z : Int32 × MS} (k9 : Int32 → Int32 → MS → Option (Int32 × MS)) (h9 : ∀ (x1 : Int32) (x2 : Int32) (S : MS), k9 x1 x2 S = some Z → Go l (EM κ) RX12 cX12_findBroken 4 (some .boolean) 7 167 0 0 (some (.int Z.1)) Z.2 9 [(0, .ref κ.o), (1, .int x1), (2, .int x2)] [] S) (k17 : Int32 → Int32 → Int32 → MS → Option (Int32 × MS)) (h17 : ∀ (x1 : Int32) (x2 : Int32) (x3 : Int32) (S : MS), k17 x1 x2 x3 S = some Z → Go l (EM κ) RX12 cX12_findBroken 4 (some .boolean) 7 167 0 0 (some (.int Z.1)) Z.2 17 [(0, .ref κ.o), (1, .int x1), (2, .int x2), (3, .int x3)] [] S) (x1 : Int32) (x2 : Int32) (x3 : Int32) (y0 : Int32) (y1 : Int32) (S : MS) (h : r_findBroken_58 k9 k17 x1 x2 x3 y0 y1 S = some Z) : Go l (EM κ) RX12 cX12_findBroken 4 (some .boolean) 7 167 0 0 (some (.int Z.1)) Z.2 58 [(0, .ref κ.o), (1, .int x1), (2, .int x2), (3, .int x3)] [.int y1, .int y0] S := by
  unfold r_findBroken_58 at h
  refine Go.icmp_eq 64 dX12_findBroken_58 (by decide) h (fun h => ?_) (fun h => ?_)
  · refine Go.aload_n 0 dX12_findBroken_64 rfl ?_
    refine GM.geta 38 22 (by decide) rfl fl_broke rfl dX12_findBroken_65 ?_
    refine Go.iconst 0 dX12_findBroken_68 (by decide) ?_
    refine Go.iload_n 2 dX12_findBroken_69 rfl ?_
    refine GM.iast 22 (by decide) rfl dX12_findBroken_70 h (fun S8 h => ?_)
    refine Go.aload_n 0 dX12_findBroken_71 rfl ?_
    refine GM.geta 38 22 (by decide) rfl fl_broke rfl dX12_findBroken_72 ?_
    refine Go.iconst 1 dX12_findBroken_75 (by decide) ?_
    refine Go.iload_n 1 dX12_findBroken_76 rfl ?_
    refine Go.if_ne 84 dX12_findBroken_77 (by decide) h (fun h => ?_) (fun h => ?_)
    · refine Go.iload_n 3 dX12_findBroken_84 rfl ?_
      exact rs_findBroken_85 _ h9 _ h17 _ _ _ _ _ _ h
    · refine Go.iconst (-1) dX12_findBroken_80 (by decide) ?_
      refine Go.goto 85 dX12_findBroken_81 (by decide) ?_
      exact rs_findBroken_85 _ h9 _ h17 _ _ _ _ _ _ h
  · refine Go.goto 131 dX12_findBroken_61 (by decide) ?_
    exact rs_findBroken_131 _ h9 _ h17 _ _ _ _ h
set_option maxRecDepth 20000 in
theorem rs_findBroken_49 {l : Launch} {κ : KMt} {Z : Int32 × MS} (k9 : Int32 → Int32 → MS → Option (Int32 × MS)) (h9 : ∀ (x1 : Int32) (x2 : Int32) (S : MS), k9 x1 x2 S = some Z → Go l (EM κ) RX12 cX12_findBroken 4 (some .boolean) 7 167 0 0 (some (.int Z.1)) Z.2 9 [(0, .ref κ.o), (1, .int x1), (2, .int x2)] [] S) (k17 : Int32 → Int32 → Int32 → MS → Option (Int32 × MS)) (h17 : ∀ (x1 : Int32) (x2 : Int32) (x3 : Int32) (S : MS), k17 x1 x2 x3 S = some Z → Go l (EM κ) RX12 cX12_findBroken 4 (some .boolean) 7 167 0 0 (some (.int Z.1)) Z.2 17 [(0, .ref κ.o), (1, .int x1), (2, .int x2), (3, .int x3)] [] S) (x1 : Int32) (x2 : Int32) (x3 : Int32) (y0 : Int32) (S : MS) (h : r_findBroken_49 k9 k17 x1 x2 x3 y0 S = some Z) : Go l (EM κ) RX12 cX12_findBroken 4 (some .boolean) 7 167 0 0 (some (.int Z.1)) Z.2 49 [(0, .ref κ.o), (1, .int x1), (2, .int x2), (3, .int x3)] [.int y0] S := by
  unfold r_findBroken_49 at h
  refine Go.iload_n 1 dX12_findBroken_49 rfl ?_
  refine Go.if_ne 57 dX12_findBroken_50 (by decide) h (fun h => ?_) (fun h => ?_)
  · refine Go.iconst 0 dX12_findBroken_57 (by decide) ?_
    exact rs_findBroken_58 _ h9 _ h17 _ _ _ _ _ _ h
  · refine Go.iconst 1 dX12_findBroken_53 (by decide) ?_
    refine Go.goto 58 dX12_findBroken_54 (by decide) ?_
    exact rs_findBroken_58 _ h9 _ h17 _ _ _ _ _ _ h
set_option maxRecDepth 20000 in
theorem rs_findBroken_17 {l : Launch} {κ : KMt} {Z : Int32 × MS} (k9 : Int32 → Int32 → MS → Option (Int32 × MS)) (h9 : ∀ (x1 : Int32) (x2 : Int32) (S : MS), k9 x1 x2 S = some Z → Go l (EM κ) RX12 cX12_findBroken 4 (some .boolean) 7 167 0 0 (some (.int Z.1)) Z.2 9 [(0, .ref κ.o), (1, .int x1), (2, .int x2)] [] S) (n : Nat) : ∀ (x1 : Int32) (x2 : Int32) (x3 : Int32) (S : MS), r_findBroken_17 k9 n x1 x2 x3 S = some Z → Go l (EM κ) RX12 cX12_findBroken 4 (some .boolean) 7 167 0 0 (some (.int Z.1)) Z.2 17 [(0, .ref κ.o), (1, .int x1), (2, .int x2), (3, .int x3)] [] S := by
  induction n with
  | zero => intro x1 x2 x3 S h; rw [r_findBroken_17] at h; cases h
  | succ n ih =>
    intro x1 x2 x3 S h
    rw [r_findBroken_17] at h
    refine Go.iload_n 3 dX12_findBroken_17 rfl ?_
    refine Go.bipush 40 dX12_findBroken_18 (by decide) ?_
    refine Go.icmp_ge 137 dX12_findBroken_20 (by decide) h (fun h => ?_) (fun h => ?_)
    · refine Go.iinc (w := 1) 2 [(0, .ref κ.o), (1, .int x1), (2, .int (x2 + 1)), (3, .int x3)] dX12_findBroken_137 rfl (by decide) (by decide) rfl ?_
      refine Go.goto 9 dX12_findBroken_140 (by decide) ?_
      refine Go.sub [0, 1, 2] rfl ?_
      exact h9 _ _ _ h
    · refine Go.aload_n 0 dX12_findBroken_23 rfl ?_
      refine Go.iload_n 2 dX12_findBroken_24 rfl ?_
      refine GM.callvr (rest := []) [.int x2] dX12_findBroken_25 ck_isThing ci_isThing (rt_isThing _) rfl rfl (Nat.le_of_ble_eq_true rfl) (Nat.le_of_ble_eq_true rfl) (Nat.le_of_ble_eq_true rfl) h (fun v9 h => ?_)
      refine Go.if_eq 131 dX12_findBroken_28 (by decide) h (fun h => ?_) (fun h => ?_)
      · exact rs_findBroken_131 _ h9 _ ih _ _ _ _ h
      · refine Go.aload_n 0 dX12_findBroken_31 rfl ?_
        refine Go.iload_n 3 dX12_findBroken_32 rfl ?_
        refine GM.callvr (rest := []) [.int x3] dX12_findBroken_33 ck_isThing ci_isThing (rt_isThing _) rfl rfl (Nat.le_of_ble_eq_true rfl) (Nat.le_of_ble_eq_true rfl) (Nat.le_of_ble_eq_true rfl) h (fun v10 h => ?_)
        refine Go.if_eq 131 dX12_findBroken_36 (by decide) h (fun h => ?_) (fun h => ?_)
        · exact rs_findBroken_131 _ h9 _ ih _ _ _ _ h
        · refine Go.iload_n 2 dX12_findBroken_39 rfl ?_
          refine Go.iload_n 3 dX12_findBroken_40 rfl ?_
          refine Go.icmp_ne 48 dX12_findBroken_41 (by decide) h (fun h => ?_) (fun h => ?_)
          · refine Go.iconst 0 dX12_findBroken_48 (by decide) ?_
            exact rs_findBroken_49 _ h9 _ ih _ _ _ _ _ h
          · refine Go.iconst 1 dX12_findBroken_44 (by decide) ?_
            refine Go.goto 49 dX12_findBroken_45 (by decide) ?_
            exact rs_findBroken_49 _ h9 _ ih _ _ _ _ _ h
set_option maxRecDepth 20000 in
theorem rs_findBroken_9 {l : Launch} {κ : KMt} {Z : Int32 × MS} (n : Nat) : ∀ (x1 : Int32) (x2 : Int32) (S : MS), r_findBroken_9 n x1 x2 S = some Z → Go l (EM κ) RX12 cX12_findBroken 4 (some .boolean) 7 167 0 0 (some (.int Z.1)) Z.2 9 [(0, .ref κ.o), (1, .int x1), (2, .int x2)] [] S := by
  induction n with
  | zero => intro x1 x2 S h; rw [r_findBroken_9] at h; cases h
  | succ n ih =>
    intro x1 x2 S h
    rw [r_findBroken_9] at h
    refine Go.iload_n 2 dX12_findBroken_9 rfl ?_
    refine Go.bipush 40 dX12_findBroken_10 (by decide) ?_
    refine Go.icmp_ge 143 dX12_findBroken_12 (by decide) h (fun h => ?_) (fun h => ?_)
    · refine Go.iconst 0 dX12_findBroken_143 (by decide) ?_
      obtain ⟨w, hw, h⟩ := Option.bind_eq_some_iff.mp h
      cases h
      exact Go.zret dX12_findBroken_144 rfl hw
    · refine Go.iconst 0 dX12_findBroken_15 (by decide) ?_
      refine Go.istore_n [(0, .ref κ.o), (1, .int x1), (2, .int x2), (3, .int 0)] dX12_findBroken_16 (by decide) rfl ?_
      exact rs_findBroken_17 _ ih _ _ _ _ _ h
set_option maxRecDepth 20000 in
theorem rs_findBroken {l : Launch} {κ : KMt} {S : MS} {Z : Int32 × MS} (x1 : Int32) (h : r_findBroken S x1 = some Z) : Go l (EM κ) RX12 cX12_findBroken 4 (some .boolean) 7 167 0 0 (some (.int Z.1)) Z.2 0 [(0, .ref κ.o), (1, .int x1)] [] S := by
  unfold r_findBroken at h
  refine Go.aload_n 0 dX12_findBroken_0 rfl ?_
  refine GM.geta 38 22 (by decide) rfl fl_broke rfl dX12_findBroken_1 ?_
  refine Go.iconst 2 dX12_findBroken_4 (by decide) ?_
  refine Go.iconst (-1) dX12_findBroken_5 (by decide) ?_
  refine GM.iast 22 (by decide) rfl dX12_findBroken_6 h (fun S11 h => ?_)
  refine Go.iconst 0 dX12_findBroken_7 (by decide) ?_
  refine Go.istore_n [(0, .ref κ.o), (1, .int x1), (2, .int 0)] dX12_findBroken_8 (by decide) rfl ?_
  exact rs_findBroken_9 _ _ _ _ h
set_option maxRecDepth 20000 in
theorem rt_findBroken {l : Launch} {κ : KMt} {S : MS} (x1 : Int32) : ∀ Z, r_findBroken S x1 = some Z → MtM l κ yX12_findBroken cX12_findBroken 4 (some .boolean) 7 167 [.ref κ.o, .int x1] S (some (.int Z.1)) Z.2 := fun Z h => MtM.of (by decide +kernel) rfl (Nat.le_of_ble_eq_true rfl) ⟨rfl, rfl, trivial⟩ (rs_findBroken x1 h)
/-! broken -/
def r_broken (S : MS) (x1 : Int32) : Option (Int32 × MS) := (r_isIn S x1 0 3).bind (fun v1 => if v1 = 0 then (zb 0).bind (fun w => some (w, S)) else bd2 (r_findBroken S x1) (fun v2 S3 => if v2 = 0 then (zb 0).bind (fun w => some (w, S3)) else (zb 1).bind (fun w => some (w, S3))))
set_option maxRecDepth 20000 in
theorem rs_broken {l : Launch} {κ : KMt} {S : MS} {Z : Int32 × MS} (x1 : Int32) (h : r_broken S x1 = some Z) : Go l (EM κ) RX12 cX12_broken 2 (some .boolean) 8 190 0 0 (some (.int Z.1)) Z.2 0 [(0, .ref κ.o), (1, .int x1)] [] S := by
  unfold r_broken at h
  refine Go.iload_n 1 dX12_broken_0 rfl ?_
  refine Go.iconst 0 dX12_broken_1 (by decide) ?_
  refine Go.iconst 3 dX12_broken_2 (by decide) ?_
  refine GM.callsr (rest := []) [.int x1, .int 0, .int 3] dX12_broken_3 ck_isIn ci_isIn (rt_isIn _ _ _) rfl rfl (Nat.le_of_ble_eq_true rfl) (Nat.le_of_ble_eq_true rfl) (Nat.le_of_ble_eq_true rfl) h (fun v1 h => ?_)
  refine Go.if_eq 21 dX12_broken_6 (by decide) h (fun h => ?_) (fun h => ?_)
  · refine Go.iconst 0 dX12_broken_21 (by decide) ?_
    obtain ⟨w, hw, h⟩ := Option.bind_eq_some_iff.mp h
    cases h
    exact Go.zret dX12_broken_22 rfl hw
  · refine Go.aload_n 0 dX12_broken_9 rfl ?_
    refine Go.iload_n 1 dX12_broken_10 rfl ?_
    refine GM.callvw (rest := []) [.int x1] dX12_broken_11 ck_findBroken ci_findBroken (rt_findBroken _) rfl rfl (Nat.le_of_ble_eq_true rfl) (Nat.le_of_ble_eq_true rfl) (Nat.le_of_ble_eq_true rfl) h (fun v2 S3 h => ?_)
    refine Go.if_eq 21 dX12_broken_14 (by decide) h (fun h => ?_) (fun h => ?_)
    · refine Go.iconst 0 dX12_broken_21 (by decide) ?_
      obtain ⟨w, hw, h⟩ := Option.bind_eq_some_iff.mp h
      cases h
      exact Go.zret dX12_broken_22 rfl hw
    · refine Go.iconst 1 dX12_broken_17 (by decide) ?_
      refine Go.goto 22 dX12_broken_18 (by decide) ?_
      obtain ⟨w, hw, h⟩ := Option.bind_eq_some_iff.mp h
      cases h
      exact Go.zret dX12_broken_22 rfl hw
set_option maxRecDepth 20000 in
theorem rt_broken {l : Launch} {κ : KMt} {S : MS} (x1 : Int32) : ∀ Z, r_broken S x1 = some Z → MtM l κ yX12_broken cX12_broken 2 (some .boolean) 8 190 [.ref κ.o, .int x1] S (some (.int Z.1)) Z.2 := fun Z h => MtM.of (by decide +kernel) rfl (Nat.le_of_ble_eq_true rfl) ⟨rfl, rfl, trivial⟩ (rs_broken x1 h)
/-! breaks -/
def r_breaks (S : MS) (x1 : Int32) (x2 : Int32) : Option (Int32 × MS) := (r_isIn S x2 0 2).bind (fun v1 => if v1 = 0 then some ((-1), S) else bd2 (r_broken S x1) (fun v2 S3 => if v2 = 0 then some ((-1), S3) else (rd S3 22 x2).bind (fun v4 => some (v4, S3))))
set_option maxRecDepth 20000 in
theorem rs_breaks {l : Launch} {κ : KMt} {S : MS} {Z : Int32 × MS} (x1 : Int32) (x2 : Int32) (h : r_breaks S x1 x2 = some Z) : Go l (EM κ) RX12 cX12_breaks 3 (some .int) 9 211 0 0 (some (.int Z.1)) Z.2 0 [(0, .ref κ.o), (1, .int x1), (2, .int x2)] [] S := by
  unfold r_breaks at h
  refine Go.iload_n 2 dX12_breaks_0 rfl ?_
  refine Go.iconst 0 dX12_breaks_1 (by decide) ?_
  refine Go.iconst 2 dX12_breaks_2 (by decide) ?_
  refine GM.callsr (rest := []) [.int x2, .int 0, .int 2] dX12_breaks_3 ck_isIn ci_isIn (rt_isIn _ _ _) rfl rfl (Nat.le_of_ble_eq_true rfl) (Nat.le_of_ble_eq_true rfl) (Nat.le_of_ble_eq_true rfl) h (fun v1 h => ?_)
  refine Go.if_eq 26 dX12_breaks_6 (by decide) h (fun h => ?_) (fun h => ?_)
  · refine Go.iconst (-1) dX12_breaks_26 (by decide) ?_
    cases h
    exact Go.iret dX12_breaks_27 rfl
  · refine Go.aload_n 0 dX12_breaks_9 rfl ?_
    refine Go.iload_n 1 dX12_breaks_10 rfl ?_
    refine GM.callvw (rest := []) [.int x1] dX12_breaks_11 ck_broken ci_broken (rt_broken _) rfl rfl (Nat.le_of_ble_eq_true rfl) (Nat.le_of_ble_eq_true rfl) (Nat.le_of_ble_eq_true rfl) h (fun v2 S3 h => ?_)
    refine Go.if_eq 26 dX12_breaks_14 (by decide) h (fun h => ?_) (fun h => ?_)
    · refine Go.iconst (-1) dX12_breaks_26 (by decide) ?_
      cases h
      exact Go.iret dX12_breaks_27 rfl
    · refine Go.aload_n 0 dX12_breaks_17 rfl ?_
      refine GM.geta 38 22 (by decide) rfl fl_broke rfl dX12_breaks_18 ?_
      refine Go.iload_n 2 dX12_breaks_21 rfl ?_
      refine GM.iald 22 (by decide) rfl dX12_breaks_22 h (fun v4 h => ?_)
      refine Go.goto 27 dX12_breaks_23 (by decide) ?_
      cases h
      exact Go.iret dX12_breaks_27 rfl
set_option maxRecDepth 20000 in
theorem rt_breaks {l : Launch} {κ : KMt} {S : MS} (x1 : Int32) (x2 : Int32) : ∀ Z, r_breaks S x1 x2 = some Z → MtM l κ yX12_breaks cX12_breaks 3 (some .int) 9 211 [.ref κ.o, .int x1, .int x2] S (some (.int Z.1)) Z.2 := fun Z h => MtM.of (by decide +kernel) rfl (Nat.le_of_ble_eq_true rfl) ⟨rfl, rfl, rfl, trivial⟩ (rs_breaks x1 x2 h)
/-! covers -/
def r_covers_46 (k2 : Int32 → MS → Option (Int32 × MS)) (k11 : Int32 → Int32 → MS → Option (Int32 × MS)) (x1 : Int32) (x2 : Int32) (S : MS) : Option (Int32 × MS) := k11 x1 (x2 + 1) S
def r_covers_11 (k2 : Int32 → MS → Option (Int32 × MS)) : Nat → Int32 → Int32 → MS → Option (Int32 × MS)
  | 0, _, _, _ => none
  | n + 1, x1, x2, S => (r_countOf S x1).bind (fun v1 => if v1 ≤ x2 then k2 (x1 + 1) S else (r_isLeaf S x1).bind (fun v2 => if v2 = 0 then bd2 (r_farthestBelow S x1 x2) (fun v3 S4 => (r_entryOf S4 x1 x2 1).bind (fun v5 => if v3 ≤ v5 then r_covers_46 k2 (r_covers_11 k2 n) x1 x2 S4 else (zb 0).bind (fun w => some (w, S4)))) else r_covers_46 k2 (r_covers_11 k2 n) x1 x2 S))
def r_covers_2  : Nat → Int32 → MS → Option (Int32 × MS)
  | 0, _, _ => none
  | n + 1, x1, S => if 784 ≤ x1 then (zb 1).bind (fun w => some (w, S)) else r_covers_11 (r_covers_2 n) FU x1 0 S
def r_covers (S : MS)  : Option (Int32 × MS) := r_covers_2 FU 0 S
set_option maxRecDepth 20000 in
theorem rs_covers_46 {l : Launch} {κ : KMt} {Z : Int32 × MS} (k2 : Int32 → MS → Option (Int32 × MS)) (h2 : ∀ (x1 : Int32) (S : MS), k2 x1 S = some Z → Go l (EM κ) RX12 cX12_covers 3 (some .boolean) 7 169 0 0 (some (.int Z.1)) Z.2 2 [(0, .ref κ.o), (1, .int x1)] [] S) (k11 : Int32 → Int32 → MS → Option (Int32 × MS)) (h11 : ∀ (x1 : Int32) (x2 : Int32) (S : MS), k11 x1 x2 S = some Z → Go l (EM κ) RX12 cX12_covers 3 (some .boolean) 7 169 0 0 (some (.int Z.1)) Z.2 11 [(0, .ref κ.o), (1, .int x1), (2, .int x2)] [] S) (x1 : Int32) (x2 : Int32) (S : MS) (h : r_covers_46 k2 k11 x1 x2 S = some Z) : Go l (EM κ) RX12 cX12_covers 3 (some .boolean) 7 169 0 0 (some (.int Z.1)) Z.2 46 [(0, .ref κ.o), (1, .int x1), (2, .int x2)] [] S := by
  unfold r_covers_46 at h
  refine Go.iinc (w := 1) 2 [(0, .ref κ.o), (1, .int x1), (2, .int (x2 + 1))] dX12_covers_46 rfl (by decide) (by decide) rfl ?_
  refine Go.goto 11 dX12_covers_49 (by decide) ?_
  exact h11 _ _ _ h
set_option maxRecDepth 20000 in
theorem rs_covers_11 {l : Launch} {κ : KMt} {Z : Int32 × MS} (k2 : Int32 → MS → Option (Int32 × MS)) (h2 : ∀ (x1 : Int32) (S : MS), k2 x1 S = some Z → Go l (EM κ) RX12 cX12_covers 3 (some .boolean) 7 169 0 0 (some (.int Z.1)) Z.2 2 [(0, .ref κ.o), (1, .int x1)] [] S) (n : Nat) : ∀ (x1 : Int32) (x2 : Int32) (S : MS), r_covers_11 k2 n x1 x2 S = some Z → Go l (EM κ) RX12 cX12_covers 3 (some .boolean) 7 169 0 0 (some (.int Z.1)) Z.2 11 [(0, .ref κ.o), (1, .int x1), (2, .int x2)] [] S := by
  induction n with
  | zero => intro x1 x2 S h; rw [r_covers_11] at h; cases h
  | succ n ih =>
    intro x1 x2 S h
    rw [r_covers_11] at h
    refine Go.iload_n 2 dX12_covers_11 rfl ?_
    refine Go.aload_n 0 dX12_covers_12 rfl ?_
    refine Go.iload_n 1 dX12_covers_13 rfl ?_
    refine GM.callvr (rest := [.int x2]) [.int x1] dX12_covers_14 ck_countOf ci_countOf (rt_countOf _) rfl rfl (Nat.le_of_ble_eq_true rfl) (Nat.le_of_ble_eq_true rfl) (Nat.le_of_ble_eq_true rfl) h (fun v1 h => ?_)
    refine Go.icmp_ge 52 dX12_covers_17 (by decide) h (fun h => ?_) (fun h => ?_)
    · refine Go.iinc (w := 1) 1 [(0, .ref κ.o), (1, .int (x1 + 1)), (2, .int x2)] dX12_covers_52 rfl (by decide) (by decide) rfl ?_
      refine Go.goto 2 dX12_covers_55 (by decide) ?_
      refine Go.sub [0, 1] rfl ?_
      exact h2 _ _ h
    · refine Go.aload_n 0 dX12_covers_20 rfl ?_
      refine Go.iload_n 1 dX12_covers_21 rfl ?_
      refine GM.callvr (rest := []) [.int x1] dX12_covers_22 ck_isLeaf ci_isLeaf (rt_isLeaf _) rfl rfl (Nat.le_of_ble_eq_true rfl) (Nat.le_of_ble_eq_true rfl) (Nat.le_of_ble_eq_true rfl) h (fun v2 h => ?_)
      refine Go.if_ne 46 dX12_covers_25 (by decide) h (fun h => ?_) (fun h => ?_)
      · exact rs_covers_46 _ h2 _ ih _ _ _ h
      · refine Go.aload_n 0 dX12_covers_28 rfl ?_
        refine Go.iload_n 1 dX12_covers_29 rfl ?_
        refine Go.iload_n 2 dX12_covers_30 rfl ?_
        refine GM.callvw (rest := []) [.int x1, .int x2] dX12_covers_31 ck_farthestBelow ci_farthestBelow (rt_farthestBelow _ _) rfl rfl (Nat.le_of_ble_eq_true rfl) (Nat.le_of_ble_eq_true rfl) (Nat.le_of_ble_eq_true rfl) h (fun v3 S4 h => ?_)
        refine Go.aload_n 0 dX12_covers_34 rfl ?_
        refine Go.iload_n 1 dX12_covers_35 rfl ?_
        refine Go.iload_n 2 dX12_covers_36 rfl ?_
        refine Go.iconst 1 dX12_covers_37 (by decide) ?_
        refine GM.callvr (rest := [.int v3]) [.int x1, .int x2, .int 1] dX12_covers_38 ck_entryOf ci_entryOf (rt_entryOf _ _ _) rfl rfl (Nat.le_of_ble_eq_true rfl) (Nat.le_of_ble_eq_true rfl) (Nat.le_of_ble_eq_true rfl) h (fun v5 h => ?_)
        refine Go.icmp_le 46 dX12_covers_41 (by decide) h (fun h => ?_) (fun h => ?_)
        · exact rs_covers_46 _ h2 _ ih _ _ _ h
        · refine Go.iconst 0 dX12_covers_44 (by decide) ?_
          obtain ⟨w, hw, h⟩ := Option.bind_eq_some_iff.mp h
          cases h
          exact Go.zret dX12_covers_45 rfl hw
set_option maxRecDepth 20000 in
theorem rs_covers_2 {l : Launch} {κ : KMt} {Z : Int32 × MS} (n : Nat) : ∀ (x1 : Int32) (S : MS), r_covers_2 n x1 S = some Z → Go l (EM κ) RX12 cX12_covers 3 (some .boolean) 7 169 0 0 (some (.int Z.1)) Z.2 2 [(0, .ref κ.o), (1, .int x1)] [] S := by
  induction n with
  | zero => intro x1 S h; rw [r_covers_2] at h; cases h
  | succ n ih =>
    intro x1 S h
    rw [r_covers_2] at h
    refine Go.iload_n 1 dX12_covers_2 rfl ?_
    refine Go.sipush 784 dX12_covers_3 (by decide) ?_
    refine Go.icmp_ge 58 dX12_covers_6 (by decide) h (fun h => ?_) (fun h => ?_)
    · refine Go.iconst 1 dX12_covers_58 (by decide) ?_
      obtain ⟨w, hw, h⟩ := Option.bind_eq_some_iff.mp h
      cases h
      exact Go.zret dX12_covers_59 rfl hw
    · refine Go.iconst 0 dX12_covers_9 (by decide) ?_
      refine Go.istore_n [(0, .ref κ.o), (1, .int x1), (2, .int 0)] dX12_covers_10 (by decide) rfl ?_
      exact rs_covers_11 _ ih _ _ _ _ h
set_option maxRecDepth 20000 in
theorem rs_covers {l : Launch} {κ : KMt} {S : MS} {Z : Int32 × MS}  (h : r_covers S  = some Z) : Go l (EM κ) RX12 cX12_covers 3 (some .boolean) 7 169 0 0 (some (.int Z.1)) Z.2 0 [(0, .ref κ.o)] [] S := by
  unfold r_covers at h
  refine Go.iconst 0 dX12_covers_0 (by decide) ?_
  refine Go.istore_n [(0, .ref κ.o), (1, .int 0)] dX12_covers_1 (by decide) rfl ?_
  exact rs_covers_2 _ _ _ h
set_option maxRecDepth 20000 in
theorem rt_covers {l : Launch} {κ : KMt} {S : MS}  : ∀ Z, r_covers S  = some Z → MtM l κ yX12_covers cX12_covers 3 (some .boolean) 7 169 [.ref κ.o] S (some (.int Z.1)) Z.2 := fun Z h => MtM.of (by decide +kernel) rfl (Nat.le_of_ble_eq_true rfl) ⟨rfl, trivial⟩ (rs_covers  h)
/-! pair -/
def r_pair_108 (k18 : Int32 → Int32 → Int32 → Int32 → MS → Option (Int32 × MS)) (k31 : Int32 → Int32 → Int32 → Int32 → Int32 → MS → Option (Int32 × MS)) (x1 : Int32) (x2 : Int32) (x3 : Int32) (x4 : Int32) (x5 : Int32) (S : MS) : Option (Int32 × MS) := k31 x1 x2 x3 x4 (x5 + 1) S
def r_pair_96 (k18 : Int32 → Int32 → Int32 → Int32 → MS → Option (Int32 × MS)) (k31 : Int32 → Int32 → Int32 → Int32 → Int32 → MS → Option (Int32 × MS)) (x1 : Int32) (x4 : Int32) (x5 : Int32) (x6 : Int32) (S : MS) : Option (Int32 × MS) := r_pair_108 k18 k31 x1 ((40 * x4) + x5) x6 x4 x5 S
def r_pair_31 (k18 : Int32 → Int32 → Int32 → Int32 → MS → Option (Int32 × MS)) : Nat → Int32 → Int32 → Int32 → Int32 → Int32 → MS → Option (Int32 × MS)
  | 0, _, _, _, _, _, _ => none
  | n + 1, x1, x2, x3, x4, x5, S => if 40 ≤ x5 then k18 x1 x2 x3 (x4 + 1) S else (r_isThing S x4).bind (fun v1 => if v1 = 0 then r_pair_108 k18 (r_pair_31 k18 n) x1 x2 x3 x4 x5 S else (r_isThing S x5).bind (fun v2 => if v2 = 0 then r_pair_108 k18 (r_pair_31 k18 n) x1 x2 x3 x4 x5 S else bd2 (r_farOf S x4 x5) (fun v3 S4 => if x2 = (-1) then r_pair_96 k18 (r_pair_31 k18 n) x1 x4 x5 v3 S4 else if x1 = 0 then if v3 < x3 then r_pair_96 k18 (r_pair_31 k18 n) x1 x4 x5 v3 S4 else r_pair_108 k18 (r_pair_31 k18 n) x1 x2 x3 x4 x5 S4 else if x3 < v3 then r_pair_96 k18 (r_pair_31 k18 n) x1 x4 x5 v3 S4 else r_pair_108 k18 (r_pair_31 k18 n) x1 x2 x3 x4 x5 S4)))
def r_pair_18  : Nat → Int32 → Int32 → Int32 → Int32 → MS → Option (Int32 × MS)
  | 0, _, _, _, _, _ => none
  | n + 1, x1, x2, x3, x4, S => if 40 ≤ x4 then some (x2, S) else r_pair_31 (r_pair_18 n) FU x1 x2 x3 x4 (x4 + 1) S
def r_pair (S : MS) (x1 : Int32) : Option (Int32 × MS) := (r_isIn S x1 0 1).bind (fun v5 => if v5 = 0 then some ((-1), S) else r_pair_18 FU x1 (-1) 0 0 S)
set_option maxRecDepth 20000 in
theorem rs_pair_108 {l : Launch} {κ : KMt} {Z : Int32 × MS} (k18 : Int32 → Int32 → Int32 → Int32 → MS → Option (Int32 × MS)) (h18 : ∀ (x1 : Int32) (x2 : Int32) (x3 : Int32) (x4 : Int32) (S : MS), k18 x1 x2 x3 x4 S = some Z → Go l (EM κ) RX12 cX12_pair 7 (some .int) 6 143 0 0 (some (.int Z.1)) Z.2 18 [(0, .ref κ.o), (1, .int x1), (2, .int x2), (3, .int x3), (4, .int x4)] [] S) (k31 : Int32 → Int32 → Int32 → Int32 → Int32 → MS → Option (Int32 × MS)) (h31 : ∀ (x1 : Int32) (x2 : Int32) (x3 : Int32) (x4 : Int32) (x5 : Int32) (S : MS), k31 x1 x2 x3 x4 x5 S = some Z → Go l (EM κ) RX12 cX12_pair 7 (some .int) 6 143 0 0 (some (.int Z.1)) Z.2 31 [(0, .ref κ.o), (1, .int x1), (2, .int x2), (3, .int x3), (4, .int x4), (5, .int x5)] [] S) (x1 : Int32) (x2 : Int32) (x3 : Int32) (x4 : Int32) (x5 : Int32) (S : MS) (h : r_pair_108 k18 k31 x1 x2 x3 x4 x5 S = some Z) : Go l (EM κ) RX12 cX12_pair 7 (some .int) 6 143 0 0 (some (.int Z.1)) Z.2 108 [(0, .ref κ.o), (1, .int x1), (2, .int x2), (3, .int x3), (4, .int x4), (5, .int x5)] [] S := by
  unfold r_pair_108 at h
  refine Go.iinc (w := 1) 5 [(0, .ref κ.o), (1, .int x1), (2, .int x2), (3, .int x3), (4, .int x4), (5, .int (x5 + 1))] dX12_pair_108 rfl (by decide) (by decide) rfl ?_
  refine Go.goto 31 dX12_pair_111 (by decide) ?_
  exact h31 _ _ _ _ _ _ h
set_option maxRecDepth 20000 in
theorem rs_pair_96 {l : Launch} {κ : KMt} {Z : Int32 × MS} (k18 : Int32 → Int32 → Int32 → Int32 → MS → Option (Int32 × MS)) (h18 : ∀ (x1 : Int32) (x2 : Int32) (x3 : Int32) (x4 : Int32) (S : MS), k18 x1 x2 x3 x4 S = some Z → Go l (EM κ) RX12 cX12_pair 7 (some .int) 6 143 0 0 (some (.int Z.1)) Z.2 18 [(0, .ref κ.o), (1, .int x1), (2, .int x2), (3, .int x3), (4, .int x4)] [] S) (k31 : Int32 → Int32 → Int32 → Int32 → Int32 → MS → Option (Int32 × MS)) (h31 : ∀ (x1 : Int32) (x2 : Int32) (x3 : Int32) (x4 : Int32) (x5 : Int32) (S : MS), k31 x1 x2 x3 x4 x5 S = some Z → Go l (EM κ) RX12 cX12_pair 7 (some .int) 6 143 0 0 (some (.int Z.1)) Z.2 31 [(0, .ref κ.o), (1, .int x1), (2, .int x2), (3, .int x3), (4, .int x4), (5, .int x5)] [] S) (x1 : Int32) (x4 : Int32) (x5 : Int32) (x6 : Int32) (S : MS) (h : r_pair_96 k18 k31 x1 x4 x5 x6 S = some Z) : Go l (EM κ) RX12 cX12_pair 7 (some .int) 6 143 0 0 (some (.int Z.1)) Z.2 96 [(0, .ref κ.o), (1, .int x1), (4, .int x4), (5, .int x5), (6, .int x6)] [] S := by
  unfold r_pair_96 at h
  refine Go.bipush 40 dX12_pair_96 (by decide) ?_
  refine Go.iload 2 dX12_pair_98 rfl ?_
  refine Go.imul dX12_pair_100 ?_
  refine Go.iload 3 dX12_pair_101 rfl ?_
  refine Go.iadd dX12_pair_103 ?_
  refine Go.istore_n [(0, .ref κ.o), (1, .int x1), (2, .int ((40 * x4) + x5)), (4, .int x4), (5, .int x5), (6, .int x6)] dX12_pair_104 (by decide) rfl ?_
  refine Go.iload 5 dX12_pair_105 rfl ?_
  refine Go.istore_n [(0, .ref κ.o), (1, .int x1), (2, .int ((40 * x4) + x5)), (3, .int x6), (4, .int x4), (5, .int x5), (6, .int x6)] dX12_pair_107 (by decide) rfl ?_
  refine Go.sub [0, 1, 2, 3, 4, 5] rfl ?_
  exact rs_pair_108 _ h18 _ h31 _ _ _ _ _ _ h
set_option maxRecDepth 20000 in
theorem rs_pair_31 {l : Launch} {κ : KMt} {Z : Int32 × MS} (k18 : Int32 → Int32 → Int32 → Int32 → MS → Option (Int32 × MS)) (h18 : ∀ (x1 : Int32) (x2 : Int32) (x3 : Int32) (x4 : Int32) (S : MS), k18 x1 x2 x3 x4 S = some Z → Go l (EM κ) RX12 cX12_pair 7 (some .int) 6 143 0 0 (some (.int Z.1)) Z.2 18 [(0, .ref κ.o), (1, .int x1), (2, .int x2), (3, .int x3), (4, .int x4)] [] S) (n : Nat) : ∀ (x1 : Int32) (x2 : Int32) (x3 : Int32) (x4 : Int32) (x5 : Int32) (S : MS), r_pair_31 k18 n x1 x2 x3 x4 x5 S = some Z → Go l (EM κ) RX12 cX12_pair 7 (some .int) 6 143 0 0 (some (.int Z.1)) Z.2 31 [(0, .ref κ.o), (1, .int x1), (2, .int x2), (3, .int x3), (4, .int x4), (5, .int x5)] [] S := by
  induction n with
  | zero => intro x1 x2 x3 x4 x5 S h; rw [r_pair_31] at h; cases h
  | succ n ih =>
    intro x1 x2 x3 x4 x5 S h
    rw [r_pair_31] at h
    refine Go.iload 5 dX12_pair_31 rfl ?_
    refine Go.bipush 40 dX12_pair_33 (by decide) ?_
    refine Go.icmp_ge 114 dX12_pair_35 (by decide) h (fun h => ?_) (fun h => ?_)
    · refine Go.iinc (w := 1) 4 [(0, .ref κ.o), (1, .int x1), (2, .int x2), (3, .int x3), (4, .int (x4 + 1)), (5, .int x5)] dX12_pair_114 rfl (by decide) (by decide) rfl ?_
      refine Go.goto 18 dX12_pair_117 (by decide) ?_
      refine Go.sub [0, 1, 2, 3, 4] rfl ?_
      exact h18 _ _ _ _ _ h
    · refine Go.aload_n 0 dX12_pair_38 rfl ?_
      refine Go.iload 4 dX12_pair_39 rfl ?_
      refine GM.callvr (rest := []) [.int x4] dX12_pair_41 ck_isThing ci_isThing (rt_isThing _) rfl rfl (Nat.le_of_ble_eq_true rfl) (Nat.le_of_ble_eq_true rfl) (Nat.le_of_ble_eq_true rfl) h (fun v1 h => ?_)
      refine Go.if_eq 108 dX12_pair_44 (by decide) h (fun h => ?_) (fun h => ?_)
      · exact rs_pair_108 _ h18 _ ih _ _ _ _ _ _ h
      · refine Go.aload_n 0 dX12_pair_47 rfl ?_
        refine Go.iload 5 dX12_pair_48 rfl ?_
        refine GM.callvr (rest := []) [.int x5] dX12_pair_50 ck_isThing ci_isThing (rt_isThing _) rfl rfl (Nat.le_of_ble_eq_true rfl) (Nat.le_of_ble_eq_true rfl) (Nat.le_of_ble_eq_true rfl) h (fun v2 h => ?_)
        refine Go.if_ne 59 dX12_pair_53 (by decide) h (fun h => ?_) (fun h => ?_)
        · refine Go.aload_n 0 dX12_pair_59 rfl ?_
          refine Go.iload 4 dX12_pair_60 rfl ?_
          refine Go.iload 5 dX12_pair_62 rfl ?_
          refine GM.callvw (rest := []) [.int x4, .int x5] dX12_pair_64 ck_farOf ci_farOf (rt_farOf _ _) rfl rfl (Nat.le_of_ble_eq_true rfl) (Nat.le_of_ble_eq_true rfl) (Nat.le_of_ble_eq_true rfl) h (fun v3 S4 h => ?_)
          refine Go.istore [(0, .ref κ.o), (1, .int x1), (2, .int x2), (3, .int x3), (4, .int x4), (5, .int x5), (6, .int v3)] dX12_pair_67 (by decide) rfl ?_
          refine Go.iload_n 2 dX12_pair_69 rfl ?_
          refine Go.iconst (-1) dX12_pair_70 (by decide) ?_
          refine Go.icmp_eq 96 dX12_pair_71 (by decide) h (fun h => ?_) (fun h => ?_)
          · refine Go.sub [0, 1, 4, 5, 6] rfl ?_
            exact rs_pair_96 _ h18 _ ih _ _ _ _ _ h
          · refine Go.iload_n 1 dX12_pair_74 rfl ?_
            refine Go.if_ne 87 dX12_pair_75 (by decide) h (fun h => ?_) (fun h => ?_)
            · refine Go.iload 6 dX12_pair_87 rfl ?_
              refine Go.iload_n 3 dX12_pair_89 rfl ?_
              refine Go.icmp_gt 96 dX12_pair_90 (by decide) h (fun h => ?_) (fun h => ?_)
              · refine Go.sub [0, 1, 4, 5, 6] rfl ?_
                exact rs_pair_96 _ h18 _ ih _ _ _ _ _ h
              · refine Go.goto 108 dX12_pair_93 (by decide) ?_
                refine Go.sub [0, 1, 2, 3, 4, 5] rfl ?_
                exact rs_pair_108 _ h18 _ ih _ _ _ _ _ _ h
            · refine Go.iload 6 dX12_pair_78 rfl ?_
              refine Go.iload_n 3 dX12_pair_80 rfl ?_
              refine Go.icmp_lt 96 dX12_pair_81 (by decide) h (fun h => ?_) (fun h => ?_)
              · refine Go.sub [0, 1, 4, 5, 6] rfl ?_
                exact rs_pair_96 _ h18 _ ih _ _ _ _ _ h
              · refine Go.goto 108 dX12_pair_84 (by decide) ?_
                refine Go.sub [0, 1, 2, 3, 4, 5] rfl ?_
                exact rs_pair_108 _ h18 _ ih _ _ _ _ _ _ h
        · refine Go.goto 108 dX12_pair_56 (by decide) ?_
          exact rs_pair_108 _ h18 _ ih _ _ _ _ _ _ h
set_option maxRecDepth 20000 in
theorem rs_pair_18 {l : Launch} {κ : KMt} {Z : Int32 × MS} (n : Nat) : ∀ (x1 : Int32) (x2 : Int32) (x3 : Int32) (x4 : Int32) (S : MS), r_pair_18 n x1 x2 x3 x4 S = some Z → Go l (EM κ) RX12 cX12_pair 7 (some .int) 6 143 0 0 (some (.int Z.1)) Z.2 18 [(0, .ref κ.o), (1, .int x1), (2, .int x2), (3, .int x3), (4, .int x4)] [] S := by
  induction n with
  | zero => intro x1 x2 x3 x4 S h; rw [r_pair_18] at h; cases h
  | succ n ih =>
    intro x1 x2 x3 x4 S h
    rw [r_pair_18] at h
    refine Go.iload 4 dX12_pair_18 rfl ?_
    refine Go.bipush 40 dX12_pair_20 (by decide) ?_
    refine Go.icmp_ge 120 dX12_pair_22 (by decide) h (fun h => ?_) (fun h => ?_)
    · refine Go.iload_n 2 dX12_pair_120 rfl ?_
      cases h
      exact Go.iret dX12_pair_121 rfl
    · refine Go.iload 4 dX12_pair_25 rfl ?_
      refine Go.iconst 1 dX12_pair_27 (by decide) ?_
      refine Go.iadd dX12_pair_28 ?_
      refine Go.istore [(0, .ref κ.o), (1, .int x1), (2, .int x2), (3, .int x3), (4, .int x4), (5, .int (x4 + 1))] dX12_pair_29 (by decide) rfl ?_
      exact rs_pair_31 _ ih _ _ _ _ _ _ _ h
set_option maxRecDepth 20000 in
theorem rs_pair {l : Launch} {κ : KMt} {S : MS} {Z : Int32 × MS} (x1 : Int32) (h : r_pair S x1 = some Z) : Go l (EM κ) RX12 cX12_pair 7 (some .int) 6 143 0 0 (some (.int Z.1)) Z.2 0 [(0, .ref κ.o), (1, .int x1)] [] S := by
  unfold r_pair at h
  refine Go.iload_n 1 dX12_pair_0 rfl ?_
  refine Go.iconst 0 dX12_pair_1 (by decide) ?_
  refine Go.iconst 1 dX12_pair_2 (by decide) ?_
  refine GM.callsr (rest := []) [.int x1, .int 0, .int 1] dX12_pair_3 ck_isIn ci_isIn (rt_isIn _ _ _) rfl rfl (Nat.le_of_ble_eq_true rfl) (Nat.le_of_ble_eq_true rfl) (Nat.le_of_ble_eq_true rfl) h (fun v5 h => ?_)
  refine Go.if_ne 11 dX12_pair_6 (by decide) h (fun h => ?_) (fun h => ?_)
  · refine Go.iconst (-1) dX12_pair_11 (by decide) ?_
    refine Go.istore_n [(0, .ref κ.o), (1, .int x1), (2, .int (-1))] dX12_pair_12 (by decide) rfl ?_
    refine Go.iconst 0 dX12_pair_13 (by decide) ?_
    refine Go.istore_n [(0, .ref κ.o), (1, .int x1), (2, .int (-1)), (3, .int 0)] dX12_pair_14 (by decide) rfl ?_
    refine Go.iconst 0 dX12_pair_15 (by decide) ?_
    refine Go.istore [(0, .ref κ.o), (1, .int x1), (2, .int (-1)), (3, .int 0), (4, .int 0)] dX12_pair_16 (by decide) rfl ?_
    exact rs_pair_18 _ _ _ _ _ _ h
  · refine Go.iconst (-1) dX12_pair_9 (by decide) ?_
    cases h
    exact Go.iret dX12_pair_10 rfl
set_option maxRecDepth 20000 in
theorem rt_pair {l : Launch} {κ : KMt} {S : MS} (x1 : Int32) : ∀ Z, r_pair S x1 = some Z → MtM l κ yX12_pair cX12_pair 7 (some .int) 6 143 [.ref κ.o, .int x1] S (some (.int Z.1)) Z.2 := fun Z h => MtM.of (by decide +kernel) rfl (Nat.le_of_ble_eq_true rfl) ⟨rfl, rfl, trivial⟩ (rs_pair x1 h)
/-! spacedNow -/
def r_spacedNow_81 (k6 : Int32 → Int32 → Int32 → Int32 → Int32 → MS → Option (Int32 × MS)) (k19 : Int32 → Int32 → Int32 → Int32 → Int32 → Int32 → MS → Option (Int32 × MS)) (x1 : Int32) (x2 : Int32) (x3 : Int32) (x4 : Int32) (x5 : Int32) (x6 : Int32) (S : MS) : Option (Int32 × MS) := k19 x1 x2 x3 x4 x5 (x6 + 1) S
def r_spacedNow_19 (k6 : Int32 → Int32 → Int32 → Int32 → Int32 → MS → Option (Int32 × MS)) : Nat → Int32 → Int32 → Int32 → Int32 → Int32 → Int32 → MS → Option (Int32 × MS)
  | 0, _, _, _, _, _, _, _ => none
  | n + 1, x1, x2, x3, x4, x5, x6, S => if 40 ≤ x6 then k6 x1 x2 x3 x4 (x5 + 1) S else (r_isThing S x5).bind (fun v1 => if v1 = 0 then r_spacedNow_81 k6 (r_spacedNow_19 k6 n) x1 x2 x3 x4 x5 x6 S else (r_isThing S x6).bind (fun v2 => if v2 = 0 then r_spacedNow_81 k6 (r_spacedNow_19 k6 n) x1 x2 x3 x4 x5 x6 S else bd2 (r_farOf S x5 x6) (fun v3 S4 => (r_isIn S4 v3 x1 x2).bind (fun v5 => if v5 = 0 then r_spacedNow_81 k6 (r_spacedNow_19 k6 n) x1 x2 x3 x4 x5 x6 S4 else if x4 = x3 then some (((40 * x5) + x6), S4) else r_spacedNow_81 k6 (r_spacedNow_19 k6 n) x1 x2 x3 (x4 + 1) x5 x6 S4))))
def r_spacedNow_6  : Nat → Int32 → Int32 → Int32 → Int32 → Int32 → MS → Option (Int32 × MS)
  | 0, _, _, _, _, _, _ => none
  | n + 1, x1, x2, x3, x4, x5, S => if 40 ≤ x5 then if x3 = (-1) then some (x4, S) else some ((-1), S) else r_spacedNow_19 (r_spacedNow_6 n) FU x1 x2 x3 x4 x5 (x5 + 1) S
def r_spacedNow (S : MS) (x1 : Int32) (x2 : Int32) (x3 : Int32) : Option (Int32 × MS) := r_spacedNow_6 FU x1 x2 x3 0 0 S
set_option maxRecDepth 20000 in
theorem rs_spacedNow_81 {l : Launch} {κ : KMt} {Z : Int32 × MS} (k6 : Int32 → Int32 → Int32 → Int32 → Int32 → MS → Option (Int32 × MS)) (h6 : ∀ (x1 : Int32) (x2 : Int32) (x3 : Int32) (x4 : Int32) (x5 : Int32) (S : MS), k6 x1 x2 x3 x4 x5 S = some Z → Go l (EM κ) RX12 cX12_spacedNow 7 (some .int) 6 143 0 0 (some (.int Z.1)) Z.2 6 [(0, .ref κ.o), (1, .int x1), (2, .int x2), (3, .int x3), (4, .int x4), (5, .int x5)] [] S) (k19 : Int32 → Int32 → Int32 → Int32 → Int32 → Int32 → MS → Option (Int32 × MS)) (h19 : ∀ (x1 : Int32) (x2 : Int32) (x3 : Int32) (x4 : Int32) (x5 : Int32) (x6 : Int32) (S : MS), k19 x1 x2 x3 x4 x5 x6 S = some Z → Go l (EM κ) RX12 cX12_spacedNow 7 (some .int) 6 143 0 0 (some (.int Z.1)) Z.2 19 [(0, .ref κ.o), (1, .int x1), (2, .int x2), (3, .int x3), (4, .int x4), (5, .int x5), (6, .int x6)] [] S) (x1 : Int32) (x2 : Int32) (x3 : Int32) (x4 : Int32) (x5 : Int32) (x6 : Int32) (S : MS) (h : r_spacedNow_81 k6 k19 x1 x2 x3 x4 x5 x6 S = some Z) : Go l (EM κ) RX12 cX12_spacedNow 7 (some .int) 6 143 0 0 (some (.int Z.1)) Z.2 81 [(0, .ref κ.o), (1, .int x1), (2, .int x2), (3, .int x3), (4, .int x4), (5, .int x5), (6, .int x6)] [] S := by
  unfold r_spacedNow_81 at h
  refine Go.iinc (w := 1) 6 [(0, .ref κ.o), (1, .int x1), (2, .int x2), (3, .int x3), (4, .int x4), (5, .int x5), (6, .int (x6 + 1))] dX12_spacedNow_81 rfl (by decide) (by decide) rfl ?_
  refine Go.goto 19 dX12_spacedNow_84 (by decide) ?_
  exact h19 _ _ _ _ _ _ _ h
set_option maxRecDepth 20000 in
theorem rs_spacedNow_19 {l : Launch} {κ : KMt} {Z : Int32 × MS} (k6 : Int32 → Int32 → Int32 → Int32 → Int32 → MS → Option (Int32 × MS)) (h6 : ∀ (x1 : Int32) (x2 : Int32) (x3 : Int32) (x4 : Int32) (x5 : Int32) (S : MS), k6 x1 x2 x3 x4 x5 S = some Z → Go l (EM κ) RX12 cX12_spacedNow 7 (some .int) 6 143 0 0 (some (.int Z.1)) Z.2 6 [(0, .ref κ.o), (1, .int x1), (2, .int x2), (3, .int x3), (4, .int x4), (5, .int x5)] [] S) (n : Nat) : ∀ (x1 : Int32) (x2 : Int32) (x3 : Int32) (x4 : Int32) (x5 : Int32) (x6 : Int32) (S : MS), r_spacedNow_19 k6 n x1 x2 x3 x4 x5 x6 S = some Z → Go l (EM κ) RX12 cX12_spacedNow 7 (some .int) 6 143 0 0 (some (.int Z.1)) Z.2 19 [(0, .ref κ.o), (1, .int x1), (2, .int x2), (3, .int x3), (4, .int x4), (5, .int x5), (6, .int x6)] [] S := by
  induction n with
  | zero => intro x1 x2 x3 x4 x5 x6 S h; rw [r_spacedNow_19] at h; cases h
  | succ n ih =>
    intro x1 x2 x3 x4 x5 x6 S h
    rw [r_spacedNow_19] at h
    refine Go.iload 6 dX12_spacedNow_19 rfl ?_
    refine Go.bipush 40 dX12_spacedNow_21 (by decide) ?_
    refine Go.icmp_ge 87 dX12_spacedNow_23 (by decide) h (fun h => ?_) (fun h => ?_)
    · refine Go.iinc (w := 1) 5 [(0, .ref κ.o), (1, .int x1), (2, .int x2), (3, .int x3), (4, .int x4), (5, .int (x5 + 1)), (6, .int x6)] dX12_spacedNow_87 rfl (by decide) (by decide) rfl ?_
      refine Go.goto 6 dX12_spacedNow_90 (by decide) ?_
      refine Go.sub [0, 1, 2, 3, 4, 5] rfl ?_
      exact h6 _ _ _ _ _ _ h
    · refine Go.aload_n 0 dX12_spacedNow_26 rfl ?_
      refine Go.iload 5 dX12_spacedNow_27 rfl ?_
      refine GM.callvr (rest := []) [.int x5] dX12_spacedNow_29 ck_isThing ci_isThing (rt_isThing _) rfl rfl (Nat.le_of_ble_eq_true rfl) (Nat.le_of_ble_eq_true rfl) (Nat.le_of_ble_eq_true rfl) h (fun v1 h => ?_)
      refine Go.if_eq 81 dX12_spacedNow_32 (by decide) h (fun h => ?_) (fun h => ?_)
      · exact rs_spacedNow_81 _ h6 _ ih _ _ _ _ _ _ _ h
      · refine Go.aload_n 0 dX12_spacedNow_35 rfl ?_
        refine Go.iload 6 dX12_spacedNow_36 rfl ?_
        refine GM.callvr (rest := []) [.int x6] dX12_spacedNow_38 ck_isThing ci_isThing (rt_isThing _) rfl rfl (Nat.le_of_ble_eq_true rfl) (Nat.le_of_ble_eq_true rfl) (Nat.le_of_ble_eq_true rfl) h (fun v2 h => ?_)
        refine Go.if_eq 81 dX12_spacedNow_41 (by decide) h (fun h => ?_) (fun h => ?_)
        · exact rs_spacedNow_81 _ h6 _ ih _ _ _ _ _ _ _ h
        · refine Go.aload_n 0 dX12_spacedNow_44 rfl ?_
          refine Go.iload 5 dX12_spacedNow_45 rfl ?_
          refine Go.iload 6 dX12_spacedNow_47 rfl ?_
          refine GM.callvw (rest := []) [.int x5, .int x6] dX12_spacedNow_49 ck_farOf ci_farOf (rt_farOf _ _) rfl rfl (Nat.le_of_ble_eq_true rfl) (Nat.le_of_ble_eq_true rfl) (Nat.le_of_ble_eq_true rfl) h (fun v3 S4 h => ?_)
          refine Go.iload_n 1 dX12_spacedNow_52 rfl ?_
          refine Go.iload_n 2 dX12_spacedNow_53 rfl ?_
          refine GM.callsr (rest := []) [.int v3, .int x1, .int x2] dX12_spacedNow_54 ck_isIn ci_isIn (rt_isIn _ _ _) rfl rfl (Nat.le_of_ble_eq_true rfl) (Nat.le_of_ble_eq_true rfl) (Nat.le_of_ble_eq_true rfl) h (fun v5 h => ?_)
          refine Go.if_ne 63 dX12_spacedNow_57 (by decide) h (fun h => ?_) (fun h => ?_)
          · refine Go.iload 4 dX12_spacedNow_63 rfl ?_
            refine Go.iload_n 3 dX12_spacedNow_65 rfl ?_
            refine Go.icmp_ne 78 dX12_spacedNow_66 (by decide) h (fun h => ?_) (fun h => ?_)
            · refine Go.iinc (w := 1) 4 [(0, .ref κ.o), (1, .int x1), (2, .int x2), (3, .int x3), (4, .int (x4 + 1)), (5, .int x5), (6, .int x6)] dX12_spacedNow_78 rfl (by decide) (by decide) rfl ?_
              exact rs_spacedNow_81 _ h6 _ ih _ _ _ _ _ _ _ h
            · refine Go.bipush 40 dX12_spacedNow_69 (by decide) ?_
              refine Go.iload 5 dX12_spacedNow_71 rfl ?_
              refine Go.imul dX12_spacedNow_73 ?_
              refine Go.iload 6 dX12_spacedNow_74 rfl ?_
              refine Go.iadd dX12_spacedNow_76 ?_
              cases h
              exact Go.iret dX12_spacedNow_77 rfl
          · refine Go.goto 81 dX12_spacedNow_60 (by decide) ?_
            exact rs_spacedNow_81 _ h6 _ ih _ _ _ _ _ _ _ h
set_option maxRecDepth 20000 in
theorem rs_spacedNow_6 {l : Launch} {κ : KMt} {Z : Int32 × MS} (n : Nat) : ∀ (x1 : Int32) (x2 : Int32) (x3 : Int32) (x4 : Int32) (x5 : Int32) (S : MS), r_spacedNow_6 n x1 x2 x3 x4 x5 S = some Z → Go l (EM κ) RX12 cX12_spacedNow 7 (some .int) 6 143 0 0 (some (.int Z.1)) Z.2 6 [(0, .ref κ.o), (1, .int x1), (2, .int x2), (3, .int x3), (4, .int x4), (5, .int x5)] [] S := by
  induction n with
  | zero => intro x1 x2 x3 x4 x5 S h; rw [r_spacedNow_6] at h; cases h
  | succ n ih =>
    intro x1 x2 x3 x4 x5 S h
    rw [r_spacedNow_6] at h
    refine Go.iload 5 dX12_spacedNow_6 rfl ?_
    refine Go.bipush 40 dX12_spacedNow_8 (by decide) ?_
    refine Go.icmp_ge 93 dX12_spacedNow_10 (by decide) h (fun h => ?_) (fun h => ?_)
    · refine Go.iload_n 3 dX12_spacedNow_93 rfl ?_
      refine Go.iconst (-1) dX12_spacedNow_94 (by decide) ?_
      refine Go.icmp_ne 103 dX12_spacedNow_95 (by decide) h (fun h => ?_) (fun h => ?_)
      · refine Go.iconst (-1) dX12_spacedNow_103 (by decide) ?_
        cases h
        exact Go.iret dX12_spacedNow_104 rfl
      · refine Go.iload 4 dX12_spacedNow_98 rfl ?_
        refine Go.goto 104 dX12_spacedNow_100 (by decide) ?_
        cases h
        exact Go.iret dX12_spacedNow_104 rfl
    · refine Go.iload 5 dX12_spacedNow_13 rfl ?_
      refine Go.iconst 1 dX12_spacedNow_15 (by decide) ?_
      refine Go.iadd dX12_spacedNow_16 ?_
      refine Go.istore [(0, .ref κ.o), (1, .int x1), (2, .int x2), (3, .int x3), (4, .int x4), (5, .int x5), (6, .int (x5 + 1))] dX12_spacedNow_17 (by decide) rfl ?_
      exact rs_spacedNow_19 _ ih _ _ _ _ _ _ _ _ h
set_option maxRecDepth 20000 in
theorem rs_spacedNow {l : Launch} {κ : KMt} {S : MS} {Z : Int32 × MS} (x1 : Int32) (x2 : Int32) (x3 : Int32) (h : r_spacedNow S x1 x2 x3 = some Z) : Go l (EM κ) RX12 cX12_spacedNow 7 (some .int) 6 143 0 0 (some (.int Z.1)) Z.2 0 [(0, .ref κ.o), (1, .int x1), (2, .int x2), (3, .int x3)] [] S := by
  unfold r_spacedNow at h
  refine Go.iconst 0 dX12_spacedNow_0 (by decide) ?_
  refine Go.istore [(0, .ref κ.o), (1, .int x1), (2, .int x2), (3, .int x3), (4, .int 0)] dX12_spacedNow_1 (by decide) rfl ?_
  refine Go.iconst 0 dX12_spacedNow_3 (by decide) ?_
  refine Go.istore [(0, .ref κ.o), (1, .int x1), (2, .int x2), (3, .int x3), (4, .int 0), (5, .int 0)] dX12_spacedNow_4 (by decide) rfl ?_
  exact rs_spacedNow_6 _ _ _ _ _ _ _ h
set_option maxRecDepth 20000 in
theorem rt_spacedNow {l : Launch} {κ : KMt} {S : MS} (x1 : Int32) (x2 : Int32) (x3 : Int32) : ∀ Z, r_spacedNow S x1 x2 x3 = some Z → MtM l κ yX12_spacedNow cX12_spacedNow 7 (some .int) 6 143 [.ref κ.o, .int x1, .int x2, .int x3] S (some (.int Z.1)) Z.2 := fun Z h => MtM.of (by decide +kernel) rfl (Nat.le_of_ble_eq_true rfl) ⟨rfl, rfl, rfl, rfl, trivial⟩ (rs_spacedNow x1 x2 x3 h)
/-! couple -/
def r_couple (S : MS) (x1 : Int32) (x2 : Int32) : Option (Int32 × MS) := (r_isFarNumber S x1).bind (fun v1 => if v1 = 0 then some ((-1), S) else if x2 < (-1) then some ((-1), S) else bd2 (r_spacedNow S 0 x1 x2) (fun v2 S3 => some (v2, S3)))
set_option maxRecDepth 20000 in
theorem rs_couple {l : Launch} {κ : KMt} {S : MS} {Z : Int32 × MS} (x1 : Int32) (x2 : Int32) (h : r_couple S x1 x2 = some Z) : Go l (EM κ) RX12 cX12_couple 3 (some .int) 7 169 0 0 (some (.int Z.1)) Z.2 0 [(0, .ref κ.o), (1, .int x1), (2, .int x2)] [] S := by
  unfold r_couple at h
  refine Go.iload_n 1 dX12_couple_0 rfl ?_
  refine GM.callsr (rest := []) [.int x1] dX12_couple_1 ck_isFarNumber ci_isFarNumber (rt_isFarNumber _) rfl rfl (Nat.le_of_ble_eq_true rfl) (Nat.le_of_ble_eq_true rfl) (Nat.le_of_ble_eq_true rfl) h (fun v1 h => ?_)
  refine Go.if_eq 22 dX12_couple_4 (by decide) h (fun h => ?_) (fun h => ?_)
  · refine Go.iconst (-1) dX12_couple_22 (by decide) ?_
    cases h
    exact Go.iret dX12_couple_23 rfl
  · refine Go.iload_n 2 dX12_couple_7 rfl ?_
    refine Go.iconst (-1) dX12_couple_8 (by decide) ?_
    refine Go.icmp_lt 22 dX12_couple_9 (by decide) h (fun h => ?_) (fun h => ?_)
    · refine Go.iconst (-1) dX12_couple_22 (by decide) ?_
      cases h
      exact Go.iret dX12_couple_23 rfl
    · refine Go.aload_n 0 dX12_couple_12 rfl ?_
      refine Go.iconst 0 dX12_couple_13 (by decide) ?_
      refine Go.iload_n 1 dX12_couple_14 rfl ?_
      refine Go.iload_n 2 dX12_couple_15 rfl ?_
      refine GM.callvw (rest := []) [.int 0, .int x1, .int x2] dX12_couple_16 ck_spacedNow ci_spacedNow (rt_spacedNow _ _ _) rfl rfl (Nat.le_of_ble_eq_true rfl) (Nat.le_of_ble_eq_true rfl) (Nat.le_of_ble_eq_true rfl) h (fun v2 S3 h => ?_)
      refine Go.goto 23 dX12_couple_19 (by decide) ?_
      cases h
      exact Go.iret dX12_couple_23 rfl
set_option maxRecDepth 20000 in
theorem rt_couple {l : Launch} {κ : KMt} {S : MS} (x1 : Int32) (x2 : Int32) : ∀ Z, r_couple S x1 x2 = some Z → MtM l κ yX12_couple cX12_couple 3 (some .int) 7 169 [.ref κ.o, .int x1, .int x2] S (some (.int Z.1)) Z.2 := fun Z h => MtM.of (by decide +kernel) rfl (Nat.le_of_ble_eq_true rfl) ⟨rfl, rfl, rfl, trivial⟩ (rs_couple x1 x2 h)
/-! spaced -/
def r_spaced (S : MS) (x1 : Int32) : Option (Int32 × MS) := bd2 (r_spacedNow S x1 x1 (-1)) (fun v1 S2 => some (v1, S2))
set_option maxRecDepth 20000 in
theorem rs_spaced {l : Launch} {κ : KMt} {S : MS} {Z : Int32 × MS} (x1 : Int32) (h : r_spaced S x1 = some Z) : Go l (EM κ) RX12 cX12_spaced 2 (some .int) 7 169 0 0 (some (.int Z.1)) Z.2 0 [(0, .ref κ.o), (1, .int x1)] [] S := by
  unfold r_spaced at h
  refine Go.aload_n 0 dX12_spaced_0 rfl ?_
  refine Go.iload_n 1 dX12_spaced_1 rfl ?_
  refine Go.iload_n 1 dX12_spaced_2 rfl ?_
  refine Go.iconst (-1) dX12_spaced_3 (by decide) ?_
  refine GM.callvw (rest := []) [.int x1, .int x1, .int (-1)] dX12_spaced_4 ck_spacedNow ci_spacedNow (rt_spacedNow _ _ _) rfl rfl (Nat.le_of_ble_eq_true rfl) (Nat.le_of_ble_eq_true rfl) (Nat.le_of_ble_eq_true rfl) h (fun v1 S2 h => ?_)
  cases h
  exact Go.iret dX12_spaced_7 rfl
set_option maxRecDepth 20000 in
theorem rt_spaced {l : Launch} {κ : KMt} {S : MS} (x1 : Int32) : ∀ Z, r_spaced S x1 = some Z → MtM l κ yX12_spaced cX12_spaced 2 (some .int) 7 169 [.ref κ.o, .int x1] S (some (.int Z.1)) Z.2 := fun Z h => MtM.of (by decide +kernel) rfl (Nat.le_of_ble_eq_true rfl) ⟨rfl, rfl, trivial⟩ (rs_spaced x1 h)
/-! sumFrom -/
def r_sumFrom_34 (k4 : Int32 → Int32 → Int32 → MS → Option (Int32 × MS)) (x1 : Int32) (x3 : Int32) (y0 : Int32) (y1 : Int32) (S : MS) : Option (Int32 × MS) := k4 x1 (y0 + y1) (x3 + 1) S
def r_sumFrom_33 (k4 : Int32 → Int32 → Int32 → MS → Option (Int32 × MS)) (x1 : Int32) (x3 : Int32) (y0 : Int32) (S : MS) : Option (Int32 × MS) := r_sumFrom_34 k4 x1 x3 y0 0 S
def r_sumFrom_4  : Nat → Int32 → Int32 → Int32 → MS → Option (Int32 × MS)
  | 0, _, _, _, _ => none
  | n + 1, x1, x2, x3, S => if 40 ≤ x3 then some (x2, S) else (r_isThing S x3).bind (fun v1 => if v1 = 0 then r_sumFrom_33 (r_sumFrom_4 n) x1 x3 x2 S else if x3 = x1 then r_sumFrom_33 (r_sumFrom_4 n) x1 x3 x2 S else bd2 (r_farOf S x1 x3) (fun v2 S3 => r_sumFrom_34 (r_sumFrom_4 n) x1 x3 x2 v2 S3))
def r_sumFrom (S : MS) (x1 : Int32) : Option (Int32 × MS) := r_sumFrom_4 FU x1 0 0 S
set_option maxRecDepth 20000 in
theorem rs_sumFrom_34 {l : Launch} {κ : KMt} {Z : Int32 × MS} (k4 : Int32 → Int32 → Int32 → MS → Option (Int32 × MS)) (h4 : ∀ (x1 : Int32) (x2 : Int32) (x3 : Int32) (S : MS), k4 x1 x2 x3 S = some Z → Go l (EM κ) RX12 cX12_sumFrom 4 (some .int) 6 143 0 0 (some (.int Z.1)) Z.2 4 [(0, .ref κ.o), (1, .int x1), (2, .int x2), (3, .int x3)] [] S) (x1 : Int32) (x3 : Int32) (y0 : Int32) (y1 : Int32) (S : MS) (h : r_sumFrom_34 k4 x1 x3 y0 y1 S = some Z) : Go l (EM κ) RX12 cX12_sumFrom 4 (some .int) 6 143 0 0 (some (.int Z.1)) Z.2 34 [(0, .ref κ.o), (1, .int x1), (3, .int x3)] [.int y1, .int y0] S := by
  unfold r_sumFrom_34 at h
  refine Go.iadd dX12_sumFrom_34 ?_
  refine Go.istore_n [(0, .ref κ.o), (1, .int x1), (2, .int (y0 + y1)), (3, .int x3)] dX12_sumFrom_35 (by decide) rfl ?_
  refine Go.iinc (w := 1) 3 [(0, .ref κ.o), (1, .int x1), (2, .int (y0 + y1)), (3, .int (x3 + 1))] dX12_sumFrom_36 rfl (by decide) (by decide) rfl ?_
  refine Go.goto 4 dX12_sumFrom_39 (by decide) ?_
  exact h4 _ _ _ _ h
set_option maxRecDepth 20000 in
theorem rs_sumFrom_33 {l : Launch} {κ : KMt} {Z : Int32 × MS} (k4 : Int32 → Int32 → Int32 → MS → Option (Int32 × MS)) (h4 : ∀ (x1 : Int32) (x2 : Int32) (x3 : Int32) (S : MS), k4 x1 x2 x3 S = some Z → Go l (EM κ) RX12 cX12_sumFrom 4 (some .int) 6 143 0 0 (some (.int Z.1)) Z.2 4 [(0, .ref κ.o), (1, .int x1), (2, .int x2), (3, .int x3)] [] S) (x1 : Int32) (x3 : Int32) (y0 : Int32) (S : MS) (h : r_sumFrom_33 k4 x1 x3 y0 S = some Z) : Go l (EM κ) RX12 cX12_sumFrom 4 (some .int) 6 143 0 0 (some (.int Z.1)) Z.2 33 [(0, .ref κ.o), (1, .int x1), (3, .int x3)] [.int y0] S := by
  unfold r_sumFrom_33 at h
  refine Go.iconst 0 dX12_sumFrom_33 (by decide) ?_
  exact rs_sumFrom_34 _ h4 _ _ _ _ _ h
set_option maxRecDepth 20000 in
theorem rs_sumFrom_4 {l : Launch} {κ : KMt} {Z : Int32 × MS} (n : Nat) : ∀ (x1 : Int32) (x2 : Int32) (x3 : Int32) (S : MS), r_sumFrom_4 n x1 x2 x3 S = some Z → Go l (EM κ) RX12 cX12_sumFrom 4 (some .int) 6 143 0 0 (some (.int Z.1)) Z.2 4 [(0, .ref κ.o), (1, .int x1), (2, .int x2), (3, .int x3)] [] S := by
  induction n with
  | zero => intro x1 x2 x3 S h; rw [r_sumFrom_4] at h; cases h
  | succ n ih =>
    intro x1 x2 x3 S h
    rw [r_sumFrom_4] at h
    refine Go.iload_n 3 dX12_sumFrom_4 rfl ?_
    refine Go.bipush 40 dX12_sumFrom_5 (by decide) ?_
    refine Go.icmp_ge 42 dX12_sumFrom_7 (by decide) h (fun h => ?_) (fun h => ?_)
    · refine Go.iload_n 2 dX12_sumFrom_42 rfl ?_
      cases h
      exact Go.iret dX12_sumFrom_43 rfl
    · refine Go.iload_n 2 dX12_sumFrom_10 rfl ?_
      refine Go.aload_n 0 dX12_sumFrom_11 rfl ?_
      refine Go.iload_n 3 dX12_sumFrom_12 rfl ?_
      refine GM.callvr (rest := [.int x2]) [.int x3] dX12_sumFrom_13 ck_isThing ci_isThing (rt_isThing _) rfl rfl (Nat.le_of_ble_eq_true rfl) (Nat.le_of_ble_eq_true rfl) (Nat.le_of_ble_eq_true rfl) h (fun v1 h => ?_)
      refine Go.if_eq 33 dX12_sumFrom_16 (by decide) h (fun h => ?_) (fun h => ?_)
      · refine Go.sub [0, 1, 3] rfl ?_
        exact rs_sumFrom_33 _ ih _ _ _ _ h
      · refine Go.iload_n 3 dX12_sumFrom_19 rfl ?_
        refine Go.iload_n 1 dX12_sumFrom_20 rfl ?_
        refine Go.icmp_eq 33 dX12_sumFrom_21 (by decide) h (fun h => ?_) (fun h => ?_)
        · refine Go.sub [0, 1, 3] rfl ?_
          exact rs_sumFrom_33 _ ih _ _ _ _ h
        · refine Go.aload_n 0 dX12_sumFrom_24 rfl ?_
          refine Go.iload_n 1 dX12_sumFrom_25 rfl ?_
          refine Go.iload_n 3 dX12_sumFrom_26 rfl ?_
          refine GM.callvw (rest := [.int x2]) [.int x1, .int x3] dX12_sumFrom_27 ck_farOf ci_farOf (rt_farOf _ _) rfl rfl (Nat.le_of_ble_eq_true rfl) (Nat.le_of_ble_eq_true rfl) (Nat.le_of_ble_eq_true rfl) h (fun v2 S3 h => ?_)
          refine Go.goto 34 dX12_sumFrom_30 (by decide) ?_
          refine Go.sub [0, 1, 3] rfl ?_
          exact rs_sumFrom_34 _ ih _ _ _ _ _ h
set_option maxRecDepth 20000 in
theorem rs_sumFrom {l : Launch} {κ : KMt} {S : MS} {Z : Int32 × MS} (x1 : Int32) (h : r_sumFrom S x1 = some Z) : Go l (EM κ) RX12 cX12_sumFrom 4 (some .int) 6 143 0 0 (some (.int Z.1)) Z.2 0 [(0, .ref κ.o), (1, .int x1)] [] S := by
  unfold r_sumFrom at h
  refine Go.iconst 0 dX12_sumFrom_0 (by decide) ?_
  refine Go.istore_n [(0, .ref κ.o), (1, .int x1), (2, .int 0)] dX12_sumFrom_1 (by decide) rfl ?_
  refine Go.iconst 0 dX12_sumFrom_2 (by decide) ?_
  refine Go.istore_n [(0, .ref κ.o), (1, .int x1), (2, .int 0), (3, .int 0)] dX12_sumFrom_3 (by decide) rfl ?_
  exact rs_sumFrom_4 _ _ _ _ _ h
set_option maxRecDepth 20000 in
theorem rt_sumFrom {l : Launch} {κ : KMt} {S : MS} (x1 : Int32) : ∀ Z, r_sumFrom S x1 = some Z → MtM l κ yX12_sumFrom cX12_sumFrom 4 (some .int) 6 143 [.ref κ.o, .int x1] S (some (.int Z.1)) Z.2 := fun Z h => MtM.of (by decide +kernel) rfl (Nat.le_of_ble_eq_true rfl) ⟨rfl, rfl, trivial⟩ (rs_sumFrom x1 h)
/-! middle -/
def r_middle_38 (k4 : Int32 → Int32 → MS → Option (Int32 × MS)) (x1 : Int32) (x2 : Int32) (S : MS) : Option (Int32 × MS) := k4 x1 (x2 + 1) S
def r_middle_36 (k4 : Int32 → Int32 → MS → Option (Int32 × MS)) (x2 : Int32) (S : MS) : Option (Int32 × MS) := r_middle_38 k4 x2 x2 S
def r_middle_4  : Nat → Int32 → Int32 → MS → Option (Int32 × MS)
  | 0, _, _, _ => none
  | n + 1, x1, x2, S => if 40 ≤ x2 then some (x1, S) else (r_isThing S x2).bind (fun v1 => if v1 = 0 then r_middle_38 (r_middle_4 n) x1 x2 S else if x1 = (-1) then r_middle_36 (r_middle_4 n) x2 S else bd2 (r_sumFrom S x2) (fun v2 S3 => bd2 (r_sumFrom S3 x1) (fun v4 S5 => if v4 ≤ v2 then r_middle_38 (r_middle_4 n) x1 x2 S5 else r_middle_36 (r_middle_4 n) x2 S5)))
def r_middle (S : MS)  : Option (Int32 × MS) := r_middle_4 FU (-1) 0 S
set_option maxRecDepth 20000 in
theorem rs_middle_38 {l : Launch} {κ : KMt} {Z : Int32 × MS} (k4 : Int32 → Int32 → MS → Option (Int32 × MS)) (h4 : ∀ (x1 : Int32) (x2 : Int32) (S : MS), k4 x1 x2 S = some Z → Go l (EM κ) RX12 cX12_middle 3 (some .int) 7 166 0 0 (some (.int Z.1)) Z.2 4 [(0, .ref κ.o), (1, .int x1), (2, .int x2)] [] S) (x1 : Int32) (x2 : Int32) (S : MS) (h : r_middle_38 k4 x1 x2 S = some Z) : Go l (EM κ) RX12 cX12_middle 3 (some .int) 7 166 0 0 (some (.int Z.1)) Z.2 38 [(0, .ref κ.o), (1, .int x1), (2, .int x2)] [] S := by
  unfold r_middle_38 at h
  refine Go.iinc (w := 1) 2 [(0, .ref κ.o), (1, .int x1), (2, .int (x2 + 1))] dX12_middle_38 rfl (by decide) (by decide) rfl ?_
  refine Go.goto 4 dX12_middle_41 (by decide) ?_
  exact h4 _ _ _ h
set_option maxRecDepth 20000 in
theorem rs_middle_36 {l : Launch} {κ : KMt} {Z : Int32 × MS} (k4 : Int32 → Int32 → MS → Option (Int32 × MS)) (h4 : ∀ (x1 : Int32) (x2 : Int32) (S : MS), k4 x1 x2 S = some Z → Go l (EM κ) RX12 cX12_middle 3 (some .int) 7 166 0 0 (some (.int Z.1)) Z.2 4 [(0, .ref κ.o), (1, .int x1), (2, .int x2)] [] S) (x2 : Int32) (S : MS) (h : r_middle_36 k4 x2 S = some Z) : Go l (EM κ) RX12 cX12_middle 3 (some .int) 7 166 0 0 (some (.int Z.1)) Z.2 36 [(0, .ref κ.o), (2, .int x2)] [] S := by
  unfold r_middle_36 at h
  refine Go.iload_n 1 dX12_middle_36 rfl ?_
  refine Go.istore_n [(0, .ref κ.o), (1, .int x2), (2, .int x2)] dX12_middle_37 (by decide) rfl ?_
  exact rs_middle_38 _ h4 _ _ _ h
set_option maxRecDepth 20000 in
theorem rs_middle_4 {l : Launch} {κ : KMt} {Z : Int32 × MS} (n : Nat) : ∀ (x1 : Int32) (x2 : Int32) (S : MS), r_middle_4 n x1 x2 S = some Z → Go l (EM κ) RX12 cX12_middle 3 (some .int) 7 166 0 0 (some (.int Z.1)) Z.2 4 [(0, .ref κ.o), (1, .int x1), (2, .int x2)] [] S := by
  induction n with
  | zero => intro x1 x2 S h; rw [r_middle_4] at h; cases h
  | succ n ih =>
    intro x1 x2 S h
    rw [r_middle_4] at h
    refine Go.iload_n 2 dX12_middle_4 rfl ?_
    refine Go.bipush 40 dX12_middle_5 (by decide) ?_
    refine Go.icmp_ge 44 dX12_middle_7 (by decide) h (fun h => ?_) (fun h => ?_)
    · refine Go.iload_n 1 dX12_middle_44 rfl ?_
      cases h
      exact Go.iret dX12_middle_45 rfl
    · refine Go.aload_n 0 dX12_middle_10 rfl ?_
      refine Go.iload_n 2 dX12_middle_11 rfl ?_
      refine GM.callvr (rest := []) [.int x2] dX12_middle_12 ck_isThing ci_isThing (rt_isThing _) rfl rfl (Nat.le_of_ble_eq_true rfl) (Nat.le_of_ble_eq_true rfl) (Nat.le_of_ble_eq_true rfl) h (fun v1 h => ?_)
      refine Go.if_eq 38 dX12_middle_15 (by decide) h (fun h => ?_) (fun h => ?_)
      · exact rs_middle_38 _ ih _ _ _ h
      · refine Go.iload_n 1 dX12_middle_18 rfl ?_
        refine Go.iconst (-1) dX12_middle_19 (by decide) ?_
        refine Go.icmp_eq 36 dX12_middle_20 (by decide) h (fun h => ?_) (fun h => ?_)
        · refine Go.sub [0, 2] rfl ?_
          exact rs_middle_36 _ ih _ _ h
        · refine Go.aload_n 0 dX12_middle_23 rfl ?_
          refine Go.iload_n 2 dX12_middle_24 rfl ?_
          refine GM.callvw (rest := []) [.int x2] dX12_middle_25 ck_sumFrom ci_sumFrom (rt_sumFrom _) rfl rfl (Nat.le_of_ble_eq_true rfl) (Nat.le_of_ble_eq_true rfl) (Nat.le_of_ble_eq_true rfl) h (fun v2 S3 h => ?_)
          refine Go.aload_n 0 dX12_middle_28 rfl ?_
          refine Go.iload_n 1 dX12_middle_29 rfl ?_
          refine GM.callvw (rest := [.int v2]) [.int x1] dX12_middle_30 ck_sumFrom ci_sumFrom (rt_sumFrom _) rfl rfl (Nat.le_of_ble_eq_true rfl) (Nat.le_of_ble_eq_true rfl) (Nat.le_of_ble_eq_true rfl) h (fun v4 S5 h => ?_)
          refine Go.icmp_ge 38 dX12_middle_33 (by decide) h (fun h => ?_) (fun h => ?_)
          · exact rs_middle_38 _ ih _ _ _ h
          · refine Go.sub [0, 2] rfl ?_
            exact rs_middle_36 _ ih _ _ h
set_option maxRecDepth 20000 in
theorem rs_middle {l : Launch} {κ : KMt} {S : MS} {Z : Int32 × MS}  (h : r_middle S  = some Z) : Go l (EM κ) RX12 cX12_middle 3 (some .int) 7 166 0 0 (some (.int Z.1)) Z.2 0 [(0, .ref κ.o)] [] S := by
  unfold r_middle at h
  refine Go.iconst (-1) dX12_middle_0 (by decide) ?_
  refine Go.istore_n [(0, .ref κ.o), (1, .int (-1))] dX12_middle_1 (by decide) rfl ?_
  refine Go.iconst 0 dX12_middle_2 (by decide) ?_
  refine Go.istore_n [(0, .ref κ.o), (1, .int (-1)), (2, .int 0)] dX12_middle_3 (by decide) rfl ?_
  exact rs_middle_4 _ _ _ _ h
set_option maxRecDepth 20000 in
theorem rt_middle {l : Launch} {κ : KMt} {S : MS}  : ∀ Z, r_middle S  = some Z → MtM l κ yX12_middle cX12_middle 3 (some .int) 7 166 [.ref κ.o] S (some (.int Z.1)) Z.2 := fun Z h => MtM.of (by decide +kernel) rfl (Nat.le_of_ble_eq_true rfl) ⟨rfl, trivial⟩ (rs_middle  h)
/-! leastFrom -/
def r_leastFrom_35 (k5 : Int32 → Int32 → Int32 → MS → Option (Int32 × MS)) (x1 : Int32) (x2 : Int32) (x3 : Int32) (S : MS) : Option (Int32 × MS) := k5 x1 x2 (x3 + 1) S
def r_leastFrom_5  : Nat → Int32 → Int32 → Int32 → MS → Option (Int32 × MS)
  | 0, _, _, _, _ => none
  | n + 1, x1, x2, x3, S => if 40 ≤ x3 then some (x2, S) else (r_isThing S x3).bind (fun v1 => if v1 = 0 then r_leastFrom_35 (r_leastFrom_5 n) x1 x2 x3 S else if x3 = x1 then r_leastFrom_35 (r_leastFrom_5 n) x1 x2 x3 S else bd2 (r_farOf S x1 x3) (fun v2 S3 => (r_lesser S3 x2 v2).bind (fun v4 => r_leastFrom_35 (r_leastFrom_5 n) x1 v4 x3 S3)))
def r_leastFrom (S : MS) (x1 : Int32) : Option (Int32 × MS) := r_leastFrom_5 FU x1 2000000000 0 S
set_option maxRecDepth 20000 in
theorem rs_leastFrom_35 {l : Launch} {κ : KMt} {Z : Int32 × MS} (k5 : Int32 → Int32 → Int32 → MS → Option (Int32 × MS)) (h5 : ∀ (x1 : Int32) (x2 : Int32) (x3 : Int32) (S : MS), k5 x1 x2 x3 S = some Z → Go l (EM κ) RX12 cX12_leastFrom 4 (some .int) 6 143 0 0 (some (.int Z.1)) Z.2 5 [(0, .ref κ.o), (1, .int x1), (2, .int x2), (3, .int x3)] [] S) (x1 : Int32) (x2 : Int32) (x3 : Int32) (S : MS) (h : r_leastFrom_35 k5 x1 x2 x3 S = some Z) : Go l (EM κ) RX12 cX12_leastFrom 4 (some .int) 6 143 0 0 (some (.int Z.1)) Z.2 35 [(0, .ref κ.o), (1, .int x1), (2, .int x2), (3, .int x3)] [] S := by
  unfold r_leastFrom_35 at h
  refine Go.iinc (w := 1) 3 [(0, .ref κ.o), (1, .int x1), (2, .int x2), (3, .int (x3 + 1))] dX12_leastFrom_35 rfl (by decide) (by decide) rfl ?_
  refine Go.goto 5 dX12_leastFrom_38 (by decide) ?_
  exact h5 _ _ _ _ h
set_option maxRecDepth 20000 in
theorem rs_leastFrom_5 {l : Launch} {κ : KMt} {Z : Int32 × MS} (n : Nat) : ∀ (x1 : Int32) (x2 : Int32) (x3 : Int32) (S : MS), r_leastFrom_5 n x1 x2 x3 S = some Z → Go l (EM κ) RX12 cX12_leastFrom 4 (some .int) 6 143 0 0 (some (.int Z.1)) Z.2 5 [(0, .ref κ.o), (1, .int x1), (2, .int x2), (3, .int x3)] [] S := by
  induction n with
  | zero => intro x1 x2 x3 S h; rw [r_leastFrom_5] at h; cases h
  | succ n ih =>
    intro x1 x2 x3 S h
    rw [r_leastFrom_5] at h
    refine Go.iload_n 3 dX12_leastFrom_5 rfl ?_
    refine Go.bipush 40 dX12_leastFrom_6 (by decide) ?_
    refine Go.icmp_ge 41 dX12_leastFrom_8 (by decide) h (fun h => ?_) (fun h => ?_)
    · refine Go.iload_n 2 dX12_leastFrom_41 rfl ?_
      cases h
      exact Go.iret dX12_leastFrom_42 rfl
    · refine Go.aload_n 0 dX12_leastFrom_11 rfl ?_
      refine Go.iload_n 3 dX12_leastFrom_12 rfl ?_
      refine GM.callvr (rest := []) [.int x3] dX12_leastFrom_13 ck_isThing ci_isThing (rt_isThing _) rfl rfl (Nat.le_of_ble_eq_true rfl) (Nat.le_of_ble_eq_true rfl) (Nat.le_of_ble_eq_true rfl) h (fun v1 h => ?_)
      refine Go.if_eq 35 dX12_leastFrom_16 (by decide) h (fun h => ?_) (fun h => ?_)
      · exact rs_leastFrom_35 _ ih _ _ _ _ h
      · refine Go.iload_n 3 dX12_leastFrom_19 rfl ?_
        refine Go.iload_n 1 dX12_leastFrom_20 rfl ?_
        refine Go.icmp_eq 35 dX12_leastFrom_21 (by decide) h (fun h => ?_) (fun h => ?_)
        · exact rs_leastFrom_35 _ ih _ _ _ _ h
        · refine Go.iload_n 2 dX12_leastFrom_24 rfl ?_
          refine Go.aload_n 0 dX12_leastFrom_25 rfl ?_
          refine Go.iload_n 1 dX12_leastFrom_26 rfl ?_
          refine Go.iload_n 3 dX12_leastFrom_27 rfl ?_
          refine GM.callvw (rest := [.int x2]) [.int x1, .int x3] dX12_leastFrom_28 ck_farOf ci_farOf (rt_farOf _ _) rfl rfl (Nat.le_of_ble_eq_true rfl) (Nat.le_of_ble_eq_true rfl) (Nat.le_of_ble_eq_true rfl) h (fun v2 S3 h => ?_)
          refine GM.callsr (rest := []) [.int x2, .int v2] dX12_leastFrom_31 ck_lesser ci_lesser (rt_lesser _ _) rfl rfl (Nat.le_of_ble_eq_true rfl) (Nat.le_of_ble_eq_true rfl) (Nat.le_of_ble_eq_true rfl) h (fun v4 h => ?_)
          refine Go.istore_n [(0, .ref κ.o), (1, .int x1), (2, .int v4), (3, .int x3)] dX12_leastFrom_34 (by decide) rfl ?_
          exact rs_leastFrom_35 _ ih _ _ _ _ h
set_option maxRecDepth 20000 in
theorem rs_leastFrom {l : Launch} {κ : KMt} {S : MS} {Z : Int32 × MS} (x1 : Int32) (h : r_leastFrom S x1 = some Z) : Go l (EM κ) RX12 cX12_leastFrom 4 (some .int) 6 143 0 0 (some (.int Z.1)) Z.2 0 [(0, .ref κ.o), (1, .int x1)] [] S := by
  unfold r_leastFrom at h
  refine Go.ldc (v := 2000000000) cn_202 dX12_leastFrom_0 ?_
  refine Go.istore_n [(0, .ref κ.o), (1, .int x1), (2, .int 2000000000)] dX12_leastFrom_2 (by decide) rfl ?_
  refine Go.iconst 0 dX12_leastFrom_3 (by decide) ?_
  refine Go.istore_n [(0, .ref κ.o), (1, .int x1), (2, .int 2000000000), (3, .int 0)] dX12_leastFrom_4 (by decide) rfl ?_
  exact rs_leastFrom_5 _ _ _ _ _ h
set_option maxRecDepth 20000 in
theorem rt_leastFrom {l : Launch} {κ : KMt} {S : MS} (x1 : Int32) : ∀ Z, r_leastFrom S x1 = some Z → MtM l κ yX12_leastFrom cX12_leastFrom 4 (some .int) 6 143 [.ref κ.o, .int x1] S (some (.int Z.1)) Z.2 := fun Z h => MtM.of (by decide +kernel) rfl (Nat.le_of_ble_eq_true rfl) ⟨rfl, rfl, trivial⟩ (rs_leastFrom x1 h)
/-! lonely -/
def r_lonely_48 (k14 : Int32 → Int32 → MS → Option (Int32 × MS)) (x1 : Int32) (x2 : Int32) (S : MS) : Option (Int32 × MS) := k14 x1 (x2 + 1) S
def r_lonely_46 (k14 : Int32 → Int32 → MS → Option (Int32 × MS)) (x2 : Int32) (S : MS) : Option (Int32 × MS) := r_lonely_48 k14 x2 x2 S
def r_lonely_14  : Nat → Int32 → Int32 → MS → Option (Int32 × MS)
  | 0, _, _, _ => none
  | n + 1, x1, x2, S => if 40 ≤ x2 then some (x1, S) else (r_isThing S x2).bind (fun v1 => if v1 = 0 then r_lonely_48 (r_lonely_14 n) x1 x2 S else if x1 = (-1) then r_lonely_46 (r_lonely_14 n) x2 S else bd2 (r_leastFrom S x2) (fun v2 S3 => bd2 (r_leastFrom S3 x1) (fun v4 S5 => if v2 ≤ v4 then r_lonely_48 (r_lonely_14 n) x1 x2 S5 else r_lonely_46 (r_lonely_14 n) x2 S5)))
def r_lonely (S : MS)  : Option (Int32 × MS) := (r_things S ).bind (fun v6 => if 2 ≤ v6 then r_lonely_14 FU (-1) 0 S else some ((-1), S))
set_option maxRecDepth 20000 in
theorem rs_lonely_48 {l : Launch} {κ : KMt} {Z : Int32 × MS} (k14 : Int32 → Int32 → MS → Option (Int32 × MS)) (h14 : ∀ (x1 : Int32) (x2 : Int32) (S : MS), k14 x1 x2 S = some Z → Go l (EM κ) RX12 cX12_lonely 3 (some .int) 7 166 0 0 (some (.int Z.1)) Z.2 14 [(0, .ref κ.o), (1, .int x1), (2, .int x2)] [] S) (x1 : Int32) (x2 : Int32) (S : MS) (h : r_lonely_48 k14 x1 x2 S = some Z) : Go l (EM κ) RX12 cX12_lonely 3 (some .int) 7 166 0 0 (some (.int Z.1)) Z.2 48 [(0, .ref κ.o), (1, .int x1), (2, .int x2)] [] S := by
  unfold r_lonely_48 at h
  refine Go.iinc (w := 1) 2 [(0, .ref κ.o), (1, .int x1), (2, .int (x2 + 1))] dX12_lonely_48 rfl (by decide) (by decide) rfl ?_
  refine Go.goto 14 dX12_lonely_51 (by decide) ?_
  exact h14 _ _ _ h
set_option maxRecDepth 20000 in
theorem rs_lonely_46 {l : Launch} {κ : KMt} {Z : Int32 × MS} (k14 : Int32 → Int32 → MS → Option (Int32 × MS)) (h14 : ∀ (x1 : Int32) (x2 : Int32) (S : MS), k14 x1 x2 S = some Z → Go l (EM κ) RX12 cX12_lonely 3 (some .int) 7 166 0 0 (some (.int Z.1)) Z.2 14 [(0, .ref κ.o), (1, .int x1), (2, .int x2)] [] S) (x2 : Int32) (S : MS) (h : r_lonely_46 k14 x2 S = some Z) : Go l (EM κ) RX12 cX12_lonely 3 (some .int) 7 166 0 0 (some (.int Z.1)) Z.2 46 [(0, .ref κ.o), (2, .int x2)] [] S := by
  unfold r_lonely_46 at h
  refine Go.iload_n 1 dX12_lonely_46 rfl ?_
  refine Go.istore_n [(0, .ref κ.o), (1, .int x2), (2, .int x2)] dX12_lonely_47 (by decide) rfl ?_
  exact rs_lonely_48 _ h14 _ _ _ h
set_option maxRecDepth 20000 in
theorem rs_lonely_14 {l : Launch} {κ : KMt} {Z : Int32 × MS} (n : Nat) : ∀ (x1 : Int32) (x2 : Int32) (S : MS), r_lonely_14 n x1 x2 S = some Z → Go l (EM κ) RX12 cX12_lonely 3 (some .int) 7 166 0 0 (some (.int Z.1)) Z.2 14 [(0, .ref κ.o), (1, .int x1), (2, .int x2)] [] S := by
  induction n with
  | zero => intro x1 x2 S h; rw [r_lonely_14] at h; cases h
  | succ n ih =>
    intro x1 x2 S h
    rw [r_lonely_14] at h
    refine Go.iload_n 2 dX12_lonely_14 rfl ?_
    refine Go.bipush 40 dX12_lonely_15 (by decide) ?_
    refine Go.icmp_ge 54 dX12_lonely_17 (by decide) h (fun h => ?_) (fun h => ?_)
    · refine Go.iload_n 1 dX12_lonely_54 rfl ?_
      cases h
      exact Go.iret dX12_lonely_55 rfl
    · refine Go.aload_n 0 dX12_lonely_20 rfl ?_
      refine Go.iload_n 2 dX12_lonely_21 rfl ?_
      refine GM.callvr (rest := []) [.int x2] dX12_lonely_22 ck_isThing ci_isThing (rt_isThing _) rfl rfl (Nat.le_of_ble_eq_true rfl) (Nat.le_of_ble_eq_true rfl) (Nat.le_of_ble_eq_true rfl) h (fun v1 h => ?_)
      refine Go.if_eq 48 dX12_lonely_25 (by decide) h (fun h => ?_) (fun h => ?_)
      · exact rs_lonely_48 _ ih _ _ _ h
      · refine Go.iload_n 1 dX12_lonely_28 rfl ?_
        refine Go.iconst (-1) dX12_lonely_29 (by decide) ?_
        refine Go.icmp_eq 46 dX12_lonely_30 (by decide) h (fun h => ?_) (fun h => ?_)
        · refine Go.sub [0, 2] rfl ?_
          exact rs_lonely_46 _ ih _ _ h
        · refine Go.aload_n 0 dX12_lonely_33 rfl ?_
          refine Go.iload_n 2 dX12_lonely_34 rfl ?_
          refine GM.callvw (rest := []) [.int x2] dX12_lonely_35 ck_leastFrom ci_leastFrom (rt_leastFrom _) rfl rfl (Nat.le_of_ble_eq_true rfl) (Nat.le_of_ble_eq_true rfl) (Nat.le_of_ble_eq_true rfl) h (fun v2 S3 h => ?_)
          refine Go.aload_n 0 dX12_lonely_38 rfl ?_
          refine Go.iload_n 1 dX12_lonely_39 rfl ?_
          refine GM.callvw (rest := [.int v2]) [.int x1] dX12_lonely_40 ck_leastFrom ci_leastFrom (rt_leastFrom _) rfl rfl (Nat.le_of_ble_eq_true rfl) (Nat.le_of_ble_eq_true rfl) (Nat.le_of_ble_eq_true rfl) h (fun v4 S5 h => ?_)
          refine Go.icmp_le 48 dX12_lonely_43 (by decide) h (fun h => ?_) (fun h => ?_)
          · exact rs_lonely_48 _ ih _ _ _ h
          · refine Go.sub [0, 2] rfl ?_
            exact rs_lonely_46 _ ih _ _ h
set_option maxRecDepth 20000 in
theorem rs_lonely {l : Launch} {κ : KMt} {S : MS} {Z : Int32 × MS}  (h : r_lonely S  = some Z) : Go l (EM κ) RX12 cX12_lonely 3 (some .int) 7 166 0 0 (some (.int Z.1)) Z.2 0 [(0, .ref κ.o)] [] S := by
  unfold r_lonely at h
  refine Go.aload_n 0 dX12_lonely_0 rfl ?_
  refine GM.callvr (rest := []) [] dX12_lonely_1 ck_things ci_things (rt_things ) rfl rfl (Nat.le_of_ble_eq_true rfl) (Nat.le_of_ble_eq_true rfl) (Nat.le_of_ble_eq_true rfl) h (fun v6 h => ?_)
  refine Go.iconst 2 dX12_lonely_4 (by decide) ?_
  refine Go.icmp_ge 10 dX12_lonely_5 (by decide) h (fun h => ?_) (fun h => ?_)
  · refine Go.iconst (-1) dX12_lonely_10 (by decide) ?_
    refine Go.istore_n [(0, .ref κ.o), (1, .int (-1))] dX12_lonely_11 (by decide) rfl ?_
    refine Go.iconst 0 dX12_lonely_12 (by decide) ?_
    refine Go.istore_n [(0, .ref κ.o), (1, .int (-1)), (2, .int 0)] dX12_lonely_13 (by decide) rfl ?_
    exact rs_lonely_14 _ _ _ _ h
  · refine Go.iconst (-1) dX12_lonely_8 (by decide) ?_
    cases h
    exact Go.iret dX12_lonely_9 rfl
set_option maxRecDepth 20000 in
theorem rt_lonely {l : Launch} {κ : KMt} {S : MS}  : ∀ Z, r_lonely S  = some Z → MtM l κ yX12_lonely cX12_lonely 3 (some .int) 7 166 [.ref κ.o] S (some (.int Z.1)) Z.2 := fun Z h => MtM.of (by decide +kernel) rfl (Nat.le_of_ble_eq_true rfl) ⟨rfl, trivial⟩ (rs_lonely  h)
/-! pivot -/
def r_pivot_171 (k60 : Int32 → Int32 → Int32 → MS → Option (Int32 × MS)) (k129 : Int32 → Int32 → Int32 → Int32 → MS → Option (Int32 × MS)) (x1 : Int32) (x3 : Int32) (x4 : Int32) (x5 : Int32) (S : MS) : Option (Int32 × MS) := k129 x1 x3 x4 (x5 + 1) S
def r_pivot_168 (k60 : Int32 → Int32 → Int32 → MS → Option (Int32 × MS)) (k129 : Int32 → Int32 → Int32 → Int32 → MS → Option (Int32 × MS)) (x1 : Int32) (x4 : Int32) (x5 : Int32) (S : MS) : Option (Int32 × MS) := r_pivot_171 k60 k129 x1 x5 x4 x5 S
def r_pivot_129 (k60 : Int32 → Int32 → Int32 → MS → Option (Int32 × MS)) : Nat → Int32 → Int32 → Int32 → Int32 → MS → Option (Int32 × MS)
  | 0, _, _, _, _, _ => none
  | n + 1, x1, x3, x4, x5, S => if 40 ≤ x5 then k60 x1 x3 (x4 + 1) S else (rd S 23 x5).bind (fun v1 => if v1 = (-1) then r_pivot_171 k60 (r_pivot_129 k60 n) x1 x3 x4 x5 S else if x3 = (-1) then r_pivot_168 k60 (r_pivot_129 k60 n) x1 x4 x5 S else (rd S 23 x5).bind (fun v2 => (rd S 23 x3).bind (fun v3 => if v2 ≤ v3 then r_pivot_171 k60 (r_pivot_129 k60 n) x1 x3 x4 x5 S else r_pivot_168 k60 (r_pivot_129 k60 n) x1 x4 x5 S)))
def r_pivot_118 (k60 : Int32 → Int32 → Int32 → MS → Option (Int32 × MS)) (k76 : Int32 → Int32 → Int32 → Int32 → MS → Option (Int32 × MS)) (x1 : Int32) (x3 : Int32) (x4 : Int32) (x5 : Int32) (S : MS) : Option (Int32 × MS) := k76 x1 x3 x4 (x5 + 1) S
def r_pivot_76 (k60 : Int32 → Int32 → Int32 → MS → Option (Int32 × MS)) : Nat → Int32 → Int32 → Int32 → Int32 → MS → Option (Int32 × MS)
  | 0, _, _, _, _, _ => none
  | n + 1, x1, x3, x4, x5, S => if 40 ≤ x5 then r_pivot_129 k60 FU x1 (-1) x4 0 S else (rd S 23 x5).bind (fun v4 => if v4 = (-1) then r_pivot_118 k60 (r_pivot_76 k60 n) x1 x3 x4 x5 S else (rd S 23 x5).bind (fun v5 => bd2 (r_farOf S x3 x5) (fun v6 S7 => (r_lesser S7 v5 v6).bind (fun v8 => (wr S7 23 x5 v8).bind (fun S9 => r_pivot_118 k60 (r_pivot_76 k60 n) x1 x3 x4 x5 S9)))))
def r_pivot_60  : Nat → Int32 → Int32 → Int32 → MS → Option (Int32 × MS)
  | 0, _, _, _, _ => none
  | n + 1, x1, x3, x4, S => if x1 ≤ x4 then some (x3, S) else (wr S 23 x3 (-1)).bind (fun S10 => r_pivot_76 (r_pivot_60 n) FU x1 x3 x4 0 S10)
def r_pivot_45 (k20 : Int32 → Int32 → MS → Option (Int32 × MS)) (x1 : Int32) (x3 : Int32) (y1 : Int32) (y2 : Int32) (S : MS) : Option (Int32 × MS) := (wr S 23 y1 y2).bind (fun S11 => k20 x1 (x3 + 1) S11)
def r_pivot_20  : Nat → Int32 → Int32 → MS → Option (Int32 × MS)
  | 0, _, _, _ => none
  | n + 1, x1, x3, S => if 40 ≤ x3 then bd2 (r_middle S ) (fun v12 S13 => r_pivot_60 FU x1 v12 0 S13) else (r_isThing S x3).bind (fun v14 => if v14 = 0 then r_pivot_45 (r_pivot_20 n) x1 x3 x3 (-1) S else r_pivot_45 (r_pivot_20 n) x1 x3 x3 2000000000 S)
def r_pivot (S : MS) (x1 : Int32) : Option (Int32 × MS) := (r_things S ).bind (fun v15 => (r_isIn S x1 0 (v15 - 1)).bind (fun v16 => if v16 = 0 then some ((-1), S) else r_pivot_20 FU x1 0 S))
set_option maxRecDepth 20000 in
theorem rs_pivot_171 {l : Launch} {κ : KMt} {Z : Int32 × MS} (k60 : Int32 → Int32 → Int32 → MS → Option (Int32 × MS)) (h60 : ∀ (x1 : Int32) (x3 : Int32) (x4 : Int32) (S : MS), k60 x1 x3 x4 S = some Z → Go l (EM κ) RX12 cX12_pivot 6 (some .int) 8 188 0 0 (some (.int Z.1)) Z.2 60 [(0, .ref κ.o), (1, .int x1), (3, .int x3), (4, .int x4)] [] S) (k129 : Int32 → Int32 → Int32 → Int32 → MS → Option (Int32 × MS)) (h129 : ∀ (x1 : Int32) (x3 : Int32) (x4 : Int32) (x5 : Int32) (S : MS), k129 x1 x3 x4 x5 S = some Z → Go l (EM κ) RX12 cX12_pivot 6 (some .int) 8 188 0 0 (some (.int Z.1)) Z.2 129 [(0, .ref κ.o), (1, .int x1), (3, .int x3), (4, .int x4), (5, .int x5)] [] S) (x1 : Int32) (x3 : Int32) (x4 : Int32) (x5 : Int32) (S : MS) (h : r_pivot_171 k60 k129 x1 x3 x4 x5 S = some Z) : Go l (EM κ) RX12 cX12_pivot 6 (some .int) 8 188 0 0 (some (.int Z.1)) Z.2 171 [(0, .ref κ.o), (1, .int x1), (3, .int x3), (4, .int x4), (5, .int x5)] [] S := by
  unfold r_pivot_171 at h
  refine Go.iinc (w := 1) 4 [(0, .ref κ.o), (1, .int x1), (3, .int x3), (4, .int x4), (5, .int (x5 + 1))] dX12_pivot_171 rfl (by decide) (by decide) rfl ?_
  refine Go.goto 129 dX12_pivot_174 (by decide) ?_
  exact h129 _ _ _ _ _ h
set_option maxRecDepth 20000 in
theorem rs_pivot_168 {l : Launch} {κ : KMt} {Z : Int32 × MS} (k60 : Int32 → Int32 → Int32 → MS → Option (Int32 × MS)) (h60 : ∀ (x1 : Int32) (x3 : Int32) (x4 : Int32) (S : MS), k60 x1 x3 x4 S = some Z → Go l (EM κ) RX12 cX12_pivot 6 (some .int) 8 188 0 0 (some (.int Z.1)) Z.2 60 [(0, .ref κ.o), (1, .int x1), (3, .int x3), (4, .int x4)] [] S) (k129 : Int32 → Int32 → Int32 → Int32 → MS → Option (Int32 × MS)) (h129 : ∀ (x1 : Int32) (x3 : Int32) (x4 : Int32) (x5 : Int32) (S : MS), k129 x1 x3 x4 x5 S = some Z → Go l (EM κ) RX12 cX12_pivot 6 (some .int) 8 188 0 0 (some (.int Z.1)) Z.2 129 [(0, .ref κ.o), (1, .int x1), (3, .int x3), (4, .int x4), (5, .int x5)] [] S) (x1 : Int32) (x4 : Int32) (x5 : Int32) (S : MS) (h : r_pivot_168 k60 k129 x1 x4 x5 S = some Z) : Go l (EM κ) RX12 cX12_pivot 6 (some .int) 8 188 0 0 (some (.int Z.1)) Z.2 168 [(0, .ref κ.o), (1, .int x1), (4, .int x4), (5, .int x5)] [] S := by
  unfold r_pivot_168 at h
  refine Go.iload 3 dX12_pivot_168 rfl ?_
  refine Go.istore_n [(0, .ref κ.o), (1, .int x1), (3, .int x5), (4, .int x4), (5, .int x5)] dX12_pivot_170 (by decide) rfl ?_
  exact rs_pivot_171 _ h60 _ h129 _ _ _ _ _ h
set_option maxRecDepth 20000 in
theorem rs_pivot_129 {l : Launch} {κ : KMt} {Z : Int32 × MS} (k60 : Int32 → Int32 → Int32 → MS → Option (Int32 × MS)) (h60 : ∀ (x1 : Int32) (x3 : Int32) (x4 : Int32) (S : MS), k60 x1 x3 x4 S = some Z → Go l (EM κ) RX12 cX12_pivot 6 (some .int) 8 188 0 0 (some (.int Z.1)) Z.2 60 [(0, .ref κ.o), (1, .int x1), (3, .int x3), (4, .int x4)] [] S) (n : Nat) : ∀ (x1 : Int32) (x3 : Int32) (x4 : Int32) (x5 : Int32) (S : MS), r_pivot_129 k60 n x1 x3 x4 x5 S = some Z → Go l (EM κ) RX12 cX12_pivot 6 (some .int) 8 188 0 0 (some (.int Z.1)) Z.2 129 [(0, .ref κ.o), (1, .int x1), (3, .int x3), (4, .int x4), (5, .int x5)] [] S := by
  induction n with
  | zero => intro x1 x3 x4 x5 S h; rw [r_pivot_129] at h; cases h
  | succ n ih =>
    intro x1 x3 x4 x5 S h
    rw [r_pivot_129] at h
    refine Go.iload 4 dX12_pivot_129 rfl ?_
    refine Go.bipush 40 dX12_pivot_131 (by decide) ?_
    refine Go.icmp_ge 177 dX12_pivot_133 (by decide) h (fun h => ?_) (fun h => ?_)
    · refine Go.iinc (w := 1) 3 [(0, .ref κ.o), (1, .int x1), (3, .int x3), (4, .int (x4 + 1)), (5, .int x5)] dX12_pivot_177 rfl (by decide) (by decide) rfl ?_
      refine Go.goto 60 dX12_pivot_180 (by decide) ?_
      refine Go.sub [0, 1, 2, 3] rfl ?_
      exact h60 _ _ _ _ h
    · refine Go.aload_n 0 dX12_pivot_136 rfl ?_
      refine GM.geta 39 23 (by decide) rfl fl_nearest rfl dX12_pivot_137 ?_
      refine Go.iload 4 dX12_pivot_140 rfl ?_
      refine GM.iald 23 (by decide) rfl dX12_pivot_142 h (fun v1 h => ?_)
      refine Go.iconst (-1) dX12_pivot_143 (by decide) ?_
      refine Go.icmp_eq 171 dX12_pivot_144 (by decide) h (fun h => ?_) (fun h => ?_)
      · exact rs_pivot_171 _ h60 _ ih _ _ _ _ _ h
      · refine Go.iload_n 2 dX12_pivot_147 rfl ?_
        refine Go.iconst (-1) dX12_pivot_148 (by decide) ?_
        refine Go.icmp_eq 168 dX12_pivot_149 (by decide) h (fun h => ?_) (fun h => ?_)
        · refine Go.sub [0, 1, 3, 4] rfl ?_
          exact rs_pivot_168 _ h60 _ ih _ _ _ _ h
        · refine Go.aload_n 0 dX12_pivot_152 rfl ?_
          refine GM.geta 39 23 (by decide) rfl fl_nearest rfl dX12_pivot_153 ?_
          refine Go.iload 4 dX12_pivot_156 rfl ?_
          refine GM.iald 23 (by decide) rfl dX12_pivot_158 h (fun v2 h => ?_)
          refine Go.aload_n 0 dX12_pivot_159 rfl ?_
          refine GM.geta 39 23 (by decide) rfl fl_nearest rfl dX12_pivot_160 ?_
          refine Go.iload_n 2 dX12_pivot_163 rfl ?_
          refine GM.iald 23 (by decide) rfl dX12_pivot_164 h (fun v3 h => ?_)
          refine Go.icmp_le 171 dX12_pivot_165 (by decide) h (fun h => ?_) (fun h => ?_)
          · exact rs_pivot_171 _ h60 _ ih _ _ _ _ _ h
          · refine Go.sub [0, 1, 3, 4] rfl ?_
            exact rs_pivot_168 _ h60 _ ih _ _ _ _ h
set_option maxRecDepth 20000 in
theorem rs_pivot_118 {l : Launch} {κ : KMt} {Z : Int32 × MS} (k60 : Int32 → Int32 → Int32 → MS → Option (Int32 × MS)) (h60 : ∀ (x1 : Int32) (x3 : Int32) (x4 : Int32) (S : MS), k60 x1 x3 x4 S = some Z → Go l (EM κ) RX12 cX12_pivot 6 (some .int) 8 188 0 0 (some (.int Z.1)) Z.2 60 [(0, .ref κ.o), (1, .int x1), (3, .int x3), (4, .int x4)] [] S) (k76 : Int32 → Int32 → Int32 → Int32 → MS → Option (Int32 × MS)) (h76 : ∀ (x1 : Int32) (x3 : Int32) (x4 : Int32) (x5 : Int32) (S : MS), k76 x1 x3 x4 x5 S = some Z → Go l (EM κ) RX12 cX12_pivot 6 (some .int) 8 188 0 0 (some (.int Z.1)) Z.2 76 [(0, .ref κ.o), (1, .int x1), (3, .int x3), (4, .int x4), (5, .int x5)] [] S) (x1 : Int32) (x3 : Int32) (x4 : Int32) (x5 : Int32) (S : MS) (h : r_pivot_118 k60 k76 x1 x3 x4 x5 S = some Z) : Go l (EM κ) RX12 cX12_pivot 6 (some .int) 8 188 0 0 (some (.int Z.1)) Z.2 118 [(0, .ref κ.o), (1, .int x1), (3, .int x3), (4, .int x4), (5, .int x5)] [] S := by
  unfold r_pivot_118 at h
  refine Go.iinc (w := 1) 4 [(0, .ref κ.o), (1, .int x1), (3, .int x3), (4, .int x4), (5, .int (x5 + 1))] dX12_pivot_118 rfl (by decide) (by decide) rfl ?_
  refine Go.goto 76 dX12_pivot_121 (by decide) ?_
  exact h76 _ _ _ _ _ h
set_option maxRecDepth 20000 in
theorem rs_pivot_76 {l : Launch} {κ : KMt} {Z : Int32 × MS} (k60 : Int32 → Int32 → Int32 → MS → Option (Int32 × MS)) (h60 : ∀ (x1 : Int32) (x3 : Int32) (x4 : Int32) (S : MS), k60 x1 x3 x4 S = some Z → Go l (EM κ) RX12 cX12_pivot 6 (some .int) 8 188 0 0 (some (.int Z.1)) Z.2 60 [(0, .ref κ.o), (1, .int x1), (3, .int x3), (4, .int x4)] [] S) (n : Nat) : ∀ (x1 : Int32) (x3 : Int32) (x4 : Int32) (x5 : Int32) (S : MS), r_pivot_76 k60 n x1 x3 x4 x5 S = some Z → Go l (EM κ) RX12 cX12_pivot 6 (some .int) 8 188 0 0 (some (.int Z.1)) Z.2 76 [(0, .ref κ.o), (1, .int x1), (3, .int x3), (4, .int x4), (5, .int x5)] [] S := by
  induction n with
  | zero => intro x1 x3 x4 x5 S h; rw [r_pivot_76] at h; cases h
  | succ n ih =>
    intro x1 x3 x4 x5 S h
    rw [r_pivot_76] at h
    refine Go.iload 4 dX12_pivot_76 rfl ?_
    refine Go.bipush 40 dX12_pivot_78 (by decide) ?_
    refine Go.icmp_ge 124 dX12_pivot_80 (by decide) h (fun h => ?_) (fun h => ?_)
    · refine Go.iconst (-1) dX12_pivot_124 (by decide) ?_
      refine Go.istore_n [(0, .ref κ.o), (1, .int x1), (3, .int (-1)), (4, .int x4), (5, .int x5)] dX12_pivot_125 (by decide) rfl ?_
      refine Go.iconst 0 dX12_pivot_126 (by decide) ?_
      refine Go.istore [(0, .ref κ.o), (1, .int x1), (3, .int (-1)), (4, .int x4), (5, .int 0)] dX12_pivot_127 (by decide) rfl ?_
      exact rs_pivot_129 _ h60 _ _ _ _ _ _ h
    · refine Go.aload_n 0 dX12_pivot_83 rfl ?_
      refine GM.geta 39 23 (by decide) rfl fl_nearest rfl dX12_pivot_84 ?_
      refine Go.iload 4 dX12_pivot_87 rfl ?_
      refine GM.iald 23 (by decide) rfl dX12_pivot_89 h (fun v4 h => ?_)
      refine Go.iconst (-1) dX12_pivot_90 (by decide) ?_
      refine Go.icmp_eq 118 dX12_pivot_91 (by decide) h (fun h => ?_) (fun h => ?_)
      · exact rs_pivot_118 _ h60 _ ih _ _ _ _ _ h
      · refine Go.aload_n 0 dX12_pivot_94 rfl ?_
        refine GM.geta 39 23 (by decide) rfl fl_nearest rfl dX12_pivot_95 ?_
        refine Go.iload 4 dX12_pivot_98 rfl ?_
        refine Go.aload_n 0 dX12_pivot_100 rfl ?_
        refine GM.geta 39 23 (by decide) rfl fl_nearest rfl dX12_pivot_101 ?_
        refine Go.iload 4 dX12_pivot_104 rfl ?_
        refine GM.iald 23 (by decide) rfl dX12_pivot_106 h (fun v5 h => ?_)
        refine Go.aload_n 0 dX12_pivot_107 rfl ?_
        refine Go.iload_n 2 dX12_pivot_108 rfl ?_
        refine Go.iload 4 dX12_pivot_109 rfl ?_
        refine GM.callvw (rest := [.int v5, .int x5, .ref (κ.o + 1 + 23)]) [.int x3, .int x5] dX12_pivot_111 ck_farOf ci_farOf (rt_farOf _ _) rfl rfl (Nat.le_of_ble_eq_true rfl) (Nat.le_of_ble_eq_true rfl) (Nat.le_of_ble_eq_true rfl) h (fun v6 S7 h => ?_)
        refine GM.callsr (rest := [.int x5, .ref (κ.o + 1 + 23)]) [.int v5, .int v6] dX12_pivot_114 ck_lesser ci_lesser (rt_lesser _ _) rfl rfl (Nat.le_of_ble_eq_true rfl) (Nat.le_of_ble_eq_true rfl) (Nat.le_of_ble_eq_true rfl) h (fun v8 h => ?_)
        refine GM.iast 23 (by decide) rfl dX12_pivot_117 h (fun S9 h => ?_)
        exact rs_pivot_118 _ h60 _ ih _ _ _ _ _ h
set_option maxRecDepth 20000 in
theorem rs_pivot_60 {l : Launch} {κ : KMt} {Z : Int32 × MS} (n : Nat) : ∀ (x1 : Int32) (x3 : Int32) (x4 : Int32) (S : MS), r_pivot_60 n x1 x3 x4 S = some Z → Go l (EM κ) RX12 cX12_pivot 6 (some .int) 8 188 0 0 (some (.int Z.1)) Z.2 60 [(0, .ref κ.o), (1, .int x1), (3, .int x3), (4, .int x4)] [] S := by
  induction n with
  | zero => intro x1 x3 x4 S h; rw [r_pivot_60] at h; cases h
  | succ n ih =>
    intro x1 x3 x4 S h
    rw [r_pivot_60] at h
    refine Go.iload 3 dX12_pivot_60 rfl ?_
    refine Go.iload_n 1 dX12_pivot_62 rfl ?_
    refine Go.icmp_ge 183 dX12_pivot_63 (by decide) h (fun h => ?_) (fun h => ?_)
    · refine Go.iload_n 2 dX12_pivot_183 rfl ?_
      cases h
      exact Go.iret dX12_pivot_184 rfl
    · refine Go.aload_n 0 dX12_pivot_66 rfl ?_
      refine GM.geta 39 23 (by decide) rfl fl_nearest rfl dX12_pivot_67 ?_
      refine Go.iload_n 2 dX12_pivot_70 rfl ?_
      refine Go.iconst (-1) dX12_pivot_71 (by decide) ?_
      refine GM.iast 23 (by decide) rfl dX12_pivot_72 h (fun S10 h => ?_)
      refine Go.iconst 0 dX12_pivot_73 (by decide) ?_
      refine Go.istore [(0, .ref κ.o), (1, .int x1), (3, .int x3), (4, .int x4), (5, .int 0)] dX12_pivot_74 (by decide) rfl ?_
      exact rs_pivot_76 _ ih _ _ _ _ _ _ h
set_option maxRecDepth 20000 in
theorem rs_pivot_45 {l : Launch} {κ : KMt} {Z : Int32 × MS} (k20 : Int32 → Int32 → MS → Option (Int32 × MS)) (h20 : ∀ (x1 : Int32) (x3 : Int32) (S : MS), k20 x1 x3 S = some Z → Go l (EM κ) RX12 cX12_pivot 6 (some .int) 8 188 0 0 (some (.int Z.1)) Z.2 20 [(0, .ref κ.o), (1, .int x1), (3, .int x3)] [] S) (x1 : Int32) (x3 : Int32) (y1 : Int32) (y2 : Int32) (S : MS) (h : r_pivot_45 k20 x1 x3 y1 y2 S = some Z) : Go l (EM κ) RX12 cX12_pivot 6 (some .int) 8 188 0 0 (some (.int Z.1)) Z.2 45 [(0, .ref κ.o), (1, .int x1), (3, .int x3)] [.int y2, .int y1, .ref (κ.o + 1 + 23)] S := by
  unfold r_pivot_45 at h
  refine GM.iast 23 (by decide) rfl dX12_pivot_45 h (fun S11 h => ?_)
  refine Go.iinc (w := 1) 2 [(0, .ref κ.o), (1, .int x1), (3, .int (x3 + 1))] dX12_pivot_46 rfl (by decide) (by decide) rfl ?_
  refine Go.goto 20 dX12_pivot_49 (by decide) ?_
  exact h20 _ _ _ h
set_option maxRecDepth 20000 in
theorem rs_pivot_20 {l : Launch} {κ : KMt} {Z : Int32 × MS} (n : Nat) : ∀ (x1 : Int32) (x3 : Int32) (S : MS), r_pivot_20 n x1 x3 S = some Z → Go l (EM κ) RX12 cX12_pivot 6 (some .int) 8 188 0 0 (some (.int Z.1)) Z.2 20 [(0, .ref κ.o), (1, .int x1), (3, .int x3)] [] S := by
  induction n with
  | zero => intro x1 x3 S h; rw [r_pivot_20] at h; cases h
  | succ n ih =>
    intro x1 x3 S h
    rw [r_pivot_20] at h
    refine Go.iload_n 2 dX12_pivot_20 rfl ?_
    refine Go.bipush 40 dX12_pivot_21 (by decide) ?_
    refine Go.icmp_ge 52 dX12_pivot_23 (by decide) h (fun h => ?_) (fun h => ?_)
    · refine Go.aload_n 0 dX12_pivot_52 rfl ?_
      refine GM.callvw (rest := []) [] dX12_pivot_53 ck_middle ci_middle (rt_middle ) rfl rfl (Nat.le_of_ble_eq_true rfl) (Nat.le_of_ble_eq_true rfl) (Nat.le_of_ble_eq_true rfl) h (fun v12 S13 h => ?_)
      refine Go.istore_n [(0, .ref κ.o), (1, .int x1), (3, .int v12)] dX12_pivot_56 (by decide) rfl ?_
      refine Go.iconst 0 dX12_pivot_57 (by decide) ?_
      refine Go.istore [(0, .ref κ.o), (1, .int x1), (3, .int v12), (4, .int 0)] dX12_pivot_58 (by decide) rfl ?_
      exact rs_pivot_60 _ _ _ _ _ h
    · refine Go.aload_n 0 dX12_pivot_26 rfl ?_
      refine GM.geta 39 23 (by decide) rfl fl_nearest rfl dX12_pivot_27 ?_
      refine Go.iload_n 2 dX12_pivot_30 rfl ?_
      refine Go.aload_n 0 dX12_pivot_31 rfl ?_
      refine Go.iload_n 2 dX12_pivot_32 rfl ?_
      refine GM.callvr (rest := [.int x3, .ref (κ.o + 1 + 23)]) [.int x3] dX12_pivot_33 ck_isThing ci_isThing (rt_isThing _) rfl rfl (Nat.le_of_ble_eq_true rfl) (Nat.le_of_ble_eq_true rfl) (Nat.le_of_ble_eq_true rfl) h (fun v14 h => ?_)
      refine Go.if_eq 44 dX12_pivot_36 (by decide) h (fun h => ?_) (fun h => ?_)
      · refine Go.iconst (-1) dX12_pivot_44 (by decide) ?_
        exact rs_pivot_45 _ ih _ _ _ _ _ h
      · refine Go.ldc (v := 2000000000) cn_202 dX12_pivot_39 ?_
        refine Go.goto 45 dX12_pivot_41 (by decide) ?_
        exact rs_pivot_45 _ ih _ _ _ _ _ h
set_option maxRecDepth 20000 in
theorem rs_pivot {l : Launch} {κ : KMt} {S : MS} {Z : Int32 × MS} (x1 : Int32) (h : r_pivot S x1 = some Z) : Go l (EM κ) RX12 cX12_pivot 6 (some .int) 8 188 0 0 (some (.int Z.1)) Z.2 0 [(0, .ref κ.o), (1, .int x1)] [] S := by
  unfold r_pivot at h
  refine Go.aload_n 0 dX12_pivot_0 rfl ?_
  refine GM.callvr (rest := []) [] dX12_pivot_1 ck_things ci_things (rt_things ) rfl rfl (Nat.le_of_ble_eq_true rfl) (Nat.le_of_ble_eq_true rfl) (Nat.le_of_ble_eq_true rfl) h (fun v15 h => ?_)
  refine Go.istore_n [(0, .ref κ.o), (1, .int x1), (2, .int v15)] dX12_pivot_4 (by decide) rfl ?_
  refine Go.iload_n 1 dX12_pivot_5 rfl ?_
  refine Go.iconst 0 dX12_pivot_6 (by decide) ?_
  refine Go.iload_n 2 dX12_pivot_7 rfl ?_
  refine Go.iconst 1 dX12_pivot_8 (by decide) ?_
  refine Go.isub dX12_pivot_9 ?_
  refine GM.callsr (rest := []) [.int x1, .int 0, .int (v15 - 1)] dX12_pivot_10 ck_isIn ci_isIn (rt_isIn _ _ _) rfl rfl (Nat.le_of_ble_eq_true rfl) (Nat.le_of_ble_eq_true rfl) (Nat.le_of_ble_eq_true rfl) h (fun v16 h => ?_)
  refine Go.if_ne 18 dX12_pivot_13 (by decide) h (fun h => ?_) (fun h => ?_)
  · refine Go.iconst 0 dX12_pivot_18 (by decide) ?_
    refine Go.istore_n [(0, .ref κ.o), (1, .int x1), (2, .int v15), (3, .int 0)] dX12_pivot_19 (by decide) rfl ?_
    refine Go.sub [0, 1, 3] rfl ?_
    exact rs_pivot_20 _ _ _ _ h
  · refine Go.iconst (-1) dX12_pivot_16 (by decide) ?_
    cases h
    exact Go.iret dX12_pivot_17 rfl
set_option maxRecDepth 20000 in
theorem rt_pivot {l : Launch} {κ : KMt} {S : MS} (x1 : Int32) : ∀ Z, r_pivot S x1 = some Z → MtM l κ yX12_pivot cX12_pivot 6 (some .int) 8 188 [.ref κ.o, .int x1] S (some (.int Z.1)) Z.2 := fun Z h => MtM.of (by decide +kernel) rfl (Nat.le_of_ble_eq_true rfl) ⟨rfl, rfl, trivial⟩ (rs_pivot x1 h)
/-! layGroups -/
def r_layGroups_144 (k35 : Int32 → Int32 → MS → Option (MS)) (k45 : Int32 → Int32 → Int32 → MS → Option (MS)) (x1 : Int32) (x2 : Int32) (x3 : Int32) (S : MS) : Option (MS) := k45 x1 x2 (x3 + 1) S
def r_layGroups_138 (k35 : Int32 → Int32 → MS → Option (MS)) (k45 : Int32 → Int32 → Int32 → MS → Option (MS)) (k106 : Int32 → Int32 → Int32 → Int32 → Int32 → MS → Option (MS)) (x1 : Int32) (x2 : Int32) (x3 : Int32) (x4 : Int32) (x5 : Int32) (S : MS) : Option (MS) := k106 x1 x2 x3 x4 (x5 + 1) S
def r_layGroups_106 (k35 : Int32 → Int32 → MS → Option (MS)) (k45 : Int32 → Int32 → Int32 → MS → Option (MS)) : Nat → Int32 → Int32 → Int32 → Int32 → Int32 → MS → Option (MS)
  | 0, _, _, _, _, _, _ => none
  | n + 1, x1, x2, x3, x4, x5, S => if 40 ≤ x5 then r_layGroups_144 k35 k45 x1 x2 x3 S else (rd S 24 x5).bind (fun v1 => if v1 = x4 then (rd S 24 x2).bind (fun v2 => (wr S 24 x5 v2).bind (fun S3 => r_layGroups_138 k35 k45 (r_layGroups_106 k35 k45 n) x1 x2 x3 x4 x5 S3)) else r_layGroups_138 k35 k45 (r_layGroups_106 k35 k45 n) x1 x2 x3 x4 x5 S)
def r_layGroups_45 (k35 : Int32 → Int32 → MS → Option (MS)) : Nat → Int32 → Int32 → Int32 → MS → Option (MS)
  | 0, _, _, _, _ => none
  | n + 1, x1, x2, x3, S => if 40 ≤ x3 then k35 x1 (x2 + 1) S else (r_isThing S x2).bind (fun v4 => if v4 = 0 then r_layGroups_144 k35 (r_layGroups_45 k35 n) x1 x2 x3 S else (r_isThing S x3).bind (fun v5 => if v5 = 0 then r_layGroups_144 k35 (r_layGroups_45 k35 n) x1 x2 x3 S else bd2 (r_farOf S x2 x3) (fun v6 S7 => if x1 < v6 then r_layGroups_144 k35 (r_layGroups_45 k35 n) x1 x2 x3 S7 else (rd S7 24 x2).bind (fun v8 => (rd S7 24 x3).bind (fun v9 => if v8 = v9 then r_layGroups_144 k35 (r_layGroups_45 k35 n) x1 x2 x3 S7 else (rd S7 24 x3).bind (fun v10 => r_layGroups_106 k35 (r_layGroups_45 k35 n) FU x1 x2 x3 v10 0 S7))))))
def r_layGroups_35  : Nat → Int32 → Int32 → MS → Option (MS)
  | 0, _, _, _ => none
  | n + 1, x1, x2, S => if 40 ≤ x2 then some S else r_layGroups_45 (r_layGroups_35 n) FU x1 x2 (x2 + 1) S
def r_layGroups_26 (k2 : Int32 → Int32 → MS → Option (MS)) (x1 : Int32) (x2 : Int32) (y1 : Int32) (y2 : Int32) (S : MS) : Option (MS) := (wr S 24 y1 y2).bind (fun S11 => k2 x1 (x2 + 1) S11)
def r_layGroups_2  : Nat → Int32 → Int32 → MS → Option (MS)
  | 0, _, _, _ => none
  | n + 1, x1, x2, S => if 40 ≤ x2 then r_layGroups_35 FU x1 0 S else (r_isThing S x2).bind (fun v12 => if v12 = 0 then r_layGroups_26 (r_layGroups_2 n) x1 x2 x2 (-1) S else r_layGroups_26 (r_layGroups_2 n) x1 x2 x2 x2 S)
def r_layGroups (S : MS) (x1 : Int32) : Option (MS) := r_layGroups_2 FU x1 0 S
set_option maxRecDepth 20000 in
theorem rs_layGroups_144 {l : Launch} {κ : KMt} {Z : MS} (k35 : Int32 → Int32 → MS → Option (MS)) (h35 : ∀ (x1 : Int32) (x2 : Int32) (S : MS), k35 x1 x2 S = some Z → Go l (EM κ) RX12 cX12_layGroups 6 none 6 143 0 0 none Z 35 [(0, .ref κ.o), (1, .int x1), (2, .int x2)] [] S) (k45 : Int32 → Int32 → Int32 → MS → Option (MS)) (h45 : ∀ (x1 : Int32) (x2 : Int32) (x3 : Int32) (S : MS), k45 x1 x2 x3 S = some Z → Go l (EM κ) RX12 cX12_layGroups 6 none 6 143 0 0 none Z 45 [(0, .ref κ.o), (1, .int x1), (2, .int x2), (3, .int x3)] [] S) (x1 : Int32) (x2 : Int32) (x3 : Int32) (S : MS) (h : r_layGroups_144 k35 k45 x1 x2 x3 S = some Z) : Go l (EM κ) RX12 cX12_layGroups 6 none 6 143 0 0 none Z 144 [(0, .ref κ.o), (1, .int x1), (2, .int x2), (3, .int x3)] [] S := by
  unfold r_layGroups_144 at h
  refine Go.iinc (w := 1) 3 [(0, .ref κ.o), (1, .int x1), (2, .int x2), (3, .int (x3 + 1))] dX12_layGroups_144 rfl (by decide) (by decide) rfl ?_
  refine Go.goto 45 dX12_layGroups_147 (by decide) ?_
  exact h45 _ _ _ _ h
set_option maxRecDepth 20000 in
theorem rs_layGroups_138 {l : Launch} {κ : KMt} {Z : MS} (k35 : Int32 → Int32 → MS → Option (MS)) (h35 : ∀ (x1 : Int32) (x2 : Int32) (S : MS), k35 x1 x2 S = some Z → Go l (EM κ) RX12 cX12_layGroups 6 none 6 143 0 0 none Z 35 [(0, .ref κ.o), (1, .int x1), (2, .int x2)] [] S) (k45 : Int32 → Int32 → Int32 → MS → Option (MS)) (h45 : ∀ (x1 : Int32) (x2 : Int32) (x3 : Int32) (S : MS), k45 x1 x2 x3 S = some Z → Go l (EM κ) RX12 cX12_layGroups 6 none 6 143 0 0 none Z 45 [(0, .ref κ.o), (1, .int x1), (2, .int x2), (3, .int x3)] [] S) (k106 : Int32 → Int32 → Int32 → Int32 → Int32 → MS → Option (MS)) (h106 : ∀ (x1 : Int32) (x2 : Int32) (x3 : Int32) (x4 : Int32) (x5 : Int32) (S : MS), k106 x1 x2 x3 x4 x5 S = some Z → Go l (EM κ) RX12 cX12_layGroups 6 none 6 143 0 0 none Z 106 [(0, .ref κ.o), (1, .int x1), (2, .int x2), (3, .int x3), (4, .int x4), (5, .int x5)] [] S) (x1 : Int32) (x2 : Int32) (x3 : Int32) (x4 : Int32) (x5 : Int32) (S : MS) (h : r_layGroups_138 k35 k45 k106 x1 x2 x3 x4 x5 S = some Z) : Go l (EM κ) RX12 cX12_layGroups 6 none 6 143 0 0 none Z 138 [(0, .ref κ.o), (1, .int x1), (2, .int x2), (3, .int x3), (4, .int x4), (5, .int x5)] [] S := by
  unfold r_layGroups_138 at h
  refine Go.iinc (w := 1) 5 [(0, .ref κ.o), (1, .int x1), (2, .int x2), (3, .int x3), (4, .int x4), (5, .int (x5 + 1))] dX12_layGroups_138 rfl (by decide) (by decide) rfl ?_
  refine Go.goto 106 dX12_layGroups_141 (by decide) ?_
  exact h106 _ _ _ _ _ _ h
set_option maxRecDepth 20000 in
theorem rs_layGroups_106 {l : Launch} {κ : KMt} {Z : MS} (k35 : Int32 → Int32 → MS → Option (MS)) (h35 : ∀ (x1 : Int32) (x2 : Int32) (S : MS), k35 x1 x2 S = some Z → Go l (EM κ) RX12 cX12_layGroups 6 none 6 143 0 0 none Z 35 [(0, .ref κ.o), (1, .int x1), (2, .int x2)] [] S) (k45 : Int32 → Int32 → Int32 → MS → Option (MS)) (h45 : ∀ (x1 : Int32) (x2 : Int32) (x3 : Int32) (S : MS), k45 x1 x2 x3 S = some Z → Go l (EM κ) RX12 cX12_layGroups 6 none 6 143 0 0 none Z 45 [(0, .ref κ.o), (1, .int x1), (2, .int x2), (3, .int x3)] [] S) (n : Nat) : ∀ (x1 : Int32) (x2 : Int32) (x3 : Int32) (x4 : Int32) (x5 : Int32) (S : MS), r_layGroups_106 k35 k45 n x1 x2 x3 x4 x5 S = some Z → Go l (EM κ) RX12 cX12_layGroups 6 none 6 143 0 0 none Z 106 [(0, .ref κ.o), (1, .int x1), (2, .int x2), (3, .int x3), (4, .int x4), (5, .int x5)] [] S := by
  induction n with
  | zero => intro x1 x2 x3 x4 x5 S h; rw [r_layGroups_106] at h; cases h
  | succ n ih =>
    intro x1 x2 x3 x4 x5 S h
    rw [r_layGroups_106] at h
    refine Go.iload 5 dX12_layGroups_106 rfl ?_
    refine Go.bipush 40 dX12_layGroups_108 (by decide) ?_
    refine Go.icmp_ge 144 dX12_layGroups_110 (by decide) h (fun h => ?_) (fun h => ?_)
    · refine Go.sub [0, 1, 2, 3] rfl ?_
      exact rs_layGroups_144 _ h35 _ h45 _ _ _ _ h
    · refine Go.aload_n 0 dX12_layGroups_113 rfl ?_
      refine GM.geta 40 24 (by decide) rfl fl_groupOf rfl dX12_layGroups_114 ?_
      refine Go.iload 5 dX12_layGroups_117 rfl ?_
      refine GM.iald 24 (by decide) rfl dX12_layGroups_119 h (fun v1 h => ?_)
      refine Go.iload 4 dX12_layGroups_120 rfl ?_
      refine Go.icmp_ne 138 dX12_layGroups_122 (by decide) h (fun h => ?_) (fun h => ?_)
      · exact rs_layGroups_138 _ h35 _ h45 _ ih _ _ _ _ _ _ h
      · refine Go.aload_n 0 dX12_layGroups_125 rfl ?_
        refine GM.geta 40 24 (by decide) rfl fl_groupOf rfl dX12_layGroups_126 ?_
        refine Go.iload 5 dX12_layGroups_129 rfl ?_
        refine Go.aload_n 0 dX12_layGroups_131 rfl ?_
        refine GM.geta 40 24 (by decide) rfl fl_groupOf rfl dX12_layGroups_132 ?_
        refine Go.iload_n 2 dX12_layGroups_135 rfl ?_
        refine GM.iald 24 (by decide) rfl dX12_layGroups_136 h (fun v2 h => ?_)
        refine GM.iast 24 (by decide) rfl dX12_layGroups_137 h (fun S3 h => ?_)
        exact rs_layGroups_138 _ h35 _ h45 _ ih _ _ _ _ _ _ h
set_option maxRecDepth 20000 in
theorem rs_layGroups_45 {l : Launch} {κ : KMt} {Z : MS} (k35 : Int32 → Int32 → MS → Option (MS)) (h35 : ∀ (x1 : Int32) (x2 : Int32) (S : MS), k35 x1 x2 S = some Z → Go l (EM κ) RX12 cX12_layGroups 6 none 6 143 0 0 none Z 35 [(0, .ref κ.o), (1, .int x1), (2, .int x2)] [] S) (n : Nat) : ∀ (x1 : Int32) (x2 : Int32) (x3 : Int32) (S : MS), r_layGroups_45 k35 n x1 x2 x3 S = some Z → Go l (EM κ) RX12 cX12_layGroups 6 none 6 143 0 0 none Z 45 [(0, .ref κ.o), (1, .int x1), (2, .int x2), (3, .int x3)] [] S := by
  induction n with
  | zero => intro x1 x2 x3 S h; rw [r_layGroups_45] at h; cases h
  | succ n ih =>
    intro x1 x2 x3 S h
    rw [r_layGroups_45] at h
    refine Go.iload_n 3 dX12_layGroups_45 rfl ?_
    refine Go.bipush 40 dX12_layGroups_46 (by decide) ?_
    refine Go.icmp_ge 150 dX12_layGroups_48 (by decide) h (fun h => ?_) (fun h => ?_)
    · refine Go.iinc (w := 1) 2 [(0, .ref κ.o), (1, .int x1), (2, .int (x2 + 1)), (3, .int x3)] dX12_layGroups_150 rfl (by decide) (by decide) rfl ?_
      refine Go.goto 35 dX12_layGroups_153 (by decide) ?_
      refine Go.sub [0, 1, 2] rfl ?_
      exact h35 _ _ _ h
    · refine Go.aload_n 0 dX12_layGroups_51 rfl ?_
      refine Go.iload_n 2 dX12_layGroups_52 rfl ?_
      refine GM.callvr (rest := []) [.int x2] dX12_layGroups_53 ck_isThing ci_isThing (rt_isThing _) rfl rfl (Nat.le_of_ble_eq_true rfl) (Nat.le_of_ble_eq_true rfl) (Nat.le_of_ble_eq_true rfl) h (fun v4 h => ?_)
      refine Go.if_eq 144 dX12_layGroups_56 (by decide) h (fun h => ?_) (fun h => ?_)
      · exact rs_layGroups_144 _ h35 _ ih _ _ _ _ h
      · refine Go.aload_n 0 dX12_layGroups_59 rfl ?_
        refine Go.iload_n 3 dX12_layGroups_60 rfl ?_
        refine GM.callvr (rest := []) [.int x3] dX12_layGroups_61 ck_isThing ci_isThing (rt_isThing _) rfl rfl (Nat.le_of_ble_eq_true rfl) (Nat.le_of_ble_eq_true rfl) (Nat.le_of_ble_eq_true rfl) h (fun v5 h => ?_)
        refine Go.if_eq 144 dX12_layGroups_64 (by decide) h (fun h => ?_) (fun h => ?_)
        · exact rs_layGroups_144 _ h35 _ ih _ _ _ _ h
        · refine Go.aload_n 0 dX12_layGroups_67 rfl ?_
          refine Go.iload_n 2 dX12_layGroups_68 rfl ?_
          refine Go.iload_n 3 dX12_layGroups_69 rfl ?_
          refine GM.callvw (rest := []) [.int x2, .int x3] dX12_layGroups_70 ck_farOf ci_farOf (rt_farOf _ _) rfl rfl (Nat.le_of_ble_eq_true rfl) (Nat.le_of_ble_eq_true rfl) (Nat.le_of_ble_eq_true rfl) h (fun v6 S7 h => ?_)
          refine Go.iload_n 1 dX12_layGroups_73 rfl ?_
          refine Go.icmp_gt 144 dX12_layGroups_74 (by decide) h (fun h => ?_) (fun h => ?_)
          · exact rs_layGroups_144 _ h35 _ ih _ _ _ _ h
          · refine Go.aload_n 0 dX12_layGroups_77 rfl ?_
            refine GM.geta 40 24 (by decide) rfl fl_groupOf rfl dX12_layGroups_78 ?_
            refine Go.iload_n 2 dX12_layGroups_81 rfl ?_
            refine GM.iald 24 (by decide) rfl dX12_layGroups_82 h (fun v8 h => ?_)
            refine Go.aload_n 0 dX12_layGroups_83 rfl ?_
            refine GM.geta 40 24 (by decide) rfl fl_groupOf rfl dX12_layGroups_84 ?_
            refine Go.iload_n 3 dX12_layGroups_87 rfl ?_
            refine GM.iald 24 (by decide) rfl dX12_layGroups_88 h (fun v9 h => ?_)
            refine Go.icmp_ne 95 dX12_layGroups_89 (by decide) h (fun h => ?_) (fun h => ?_)
            · refine Go.aload_n 0 dX12_layGroups_95 rfl ?_
              refine GM.geta 40 24 (by decide) rfl fl_groupOf rfl dX12_layGroups_96 ?_
              refine Go.iload_n 3 dX12_layGroups_99 rfl ?_
              refine GM.iald 24 (by decide) rfl dX12_layGroups_100 h (fun v10 h => ?_)
              refine Go.istore [(0, .ref κ.o), (1, .int x1), (2, .int x2), (3, .int x3), (4, .int v10)] dX12_layGroups_101 (by decide) rfl ?_
              refine Go.iconst 0 dX12_layGroups_103 (by decide) ?_
              refine Go.istore [(0, .ref κ.o), (1, .int x1), (2, .int x2), (3, .int x3), (4, .int v10), (5, .int 0)] dX12_layGroups_104 (by decide) rfl ?_
              exact rs_layGroups_106 _ h35 _ ih _ _ _ _ _ _ _ h
            · refine Go.goto 144 dX12_layGroups_92 (by decide) ?_
              exact rs_layGroups_144 _ h35 _ ih _ _ _ _ h
set_option maxRecDepth 20000 in
theorem rs_layGroups_35 {l : Launch} {κ : KMt} {Z : MS} (n : Nat) : ∀ (x1 : Int32) (x2 : Int32) (S : MS), r_layGroups_35 n x1 x2 S = some Z → Go l (EM κ) RX12 cX12_layGroups 6 none 6 143 0 0 none Z 35 [(0, .ref κ.o), (1, .int x1), (2, .int x2)] [] S := by
  induction n with
  | zero => intro x1 x2 S h; rw [r_layGroups_35] at h; cases h
  | succ n ih =>
    intro x1 x2 S h
    rw [r_layGroups_35] at h
    refine Go.iload_n 2 dX12_layGroups_35 rfl ?_
    refine Go.bipush 40 dX12_layGroups_36 (by decide) ?_
    refine Go.icmp_ge 156 dX12_layGroups_38 (by decide) h (fun h => ?_) (fun h => ?_)
    · cases h
      exact Go.vret dX12_layGroups_156 rfl
    · refine Go.iload_n 2 dX12_layGroups_41 rfl ?_
      refine Go.iconst 1 dX12_layGroups_42 (by decide) ?_
      refine Go.iadd dX12_layGroups_43 ?_
      refine Go.istore_n [(0, .ref κ.o), (1, .int x1), (2, .int x2), (3, .int (x2 + 1))] dX12_layGroups_44 (by decide) rfl ?_
      exact rs_layGroups_45 _ ih _ _ _ _ _ h
set_option maxRecDepth 20000 in
theorem rs_layGroups_26 {l : Launch} {κ : KMt} {Z : MS} (k2 : Int32 → Int32 → MS → Option (MS)) (h2 : ∀ (x1 : Int32) (x2 : Int32) (S : MS), k2 x1 x2 S = some Z → Go l (EM κ) RX12 cX12_layGroups 6 none 6 143 0 0 none Z 2 [(0, .ref κ.o), (1, .int x1), (2, .int x2)] [] S) (x1 : Int32) (x2 : Int32) (y1 : Int32) (y2 : Int32) (S : MS) (h : r_layGroups_26 k2 x1 x2 y1 y2 S = some Z) : Go l (EM κ) RX12 cX12_layGroups 6 none 6 143 0 0 none Z 26 [(0, .ref κ.o), (1, .int x1), (2, .int x2)] [.int y2, .int y1, .ref (κ.o + 1 + 24)] S := by
  unfold r_layGroups_26 at h
  refine GM.iast 24 (by decide) rfl dX12_layGroups_26 h (fun S11 h => ?_)
  refine Go.iinc (w := 1) 2 [(0, .ref κ.o), (1, .int x1), (2, .int (x2 + 1))] dX12_layGroups_27 rfl (by decide) (by decide) rfl ?_
  refine Go.goto 2 dX12_layGroups_30 (by decide) ?_
  exact h2 _ _ _ h
set_option maxRecDepth 20000 in
theorem rs_layGroups_2 {l : Launch} {κ : KMt} {Z : MS} (n : Nat) : ∀ (x1 : Int32) (x2 : Int32) (S : MS), r_layGroups_2 n x1 x2 S = some Z → Go l (EM κ) RX12 cX12_layGroups 6 none 6 143 0 0 none Z 2 [(0, .ref κ.o), (1, .int x1), (2, .int x2)] [] S := by
  induction n with
  | zero => intro x1 x2 S h; rw [r_layGroups_2] at h; cases h
  | succ n ih =>
    intro x1 x2 S h
    rw [r_layGroups_2] at h
    refine Go.iload_n 2 dX12_layGroups_2 rfl ?_
    refine Go.bipush 40 dX12_layGroups_3 (by decide) ?_
    refine Go.icmp_ge 33 dX12_layGroups_5 (by decide) h (fun h => ?_) (fun h => ?_)
    · refine Go.iconst 0 dX12_layGroups_33 (by decide) ?_
      refine Go.istore_n [(0, .ref κ.o), (1, .int x1), (2, .int 0)] dX12_layGroups_34 (by decide) rfl ?_
      exact rs_layGroups_35 _ _ _ _ h
    · refine Go.aload_n 0 dX12_layGroups_8 rfl ?_
      refine GM.geta 40 24 (by decide) rfl fl_groupOf rfl dX12_layGroups_9 ?_
      refine Go.iload_n 2 dX12_layGroups_12 rfl ?_
      refine Go.aload_n 0 dX12_layGroups_13 rfl ?_
      refine Go.iload_n 2 dX12_layGroups_14 rfl ?_
      refine GM.callvr (rest := [.int x2, .ref (κ.o + 1 + 24)]) [.int x2] dX12_layGroups_15 ck_isThing ci_isThing (rt_isThing _) rfl rfl (Nat.le_of_ble_eq_true rfl) (Nat.le_of_ble_eq_true rfl) (Nat.le_of_ble_eq_true rfl) h (fun v12 h => ?_)
      refine Go.if_eq 25 dX12_layGroups_18 (by decide) h (fun h => ?_) (fun h => ?_)
      · refine Go.iconst (-1) dX12_layGroups_25 (by decide) ?_
        exact rs_layGroups_26 _ ih _ _ _ _ _ h
      · refine Go.iload_n 2 dX12_layGroups_21 rfl ?_
        refine Go.goto 26 dX12_layGroups_22 (by decide) ?_
        exact rs_layGroups_26 _ ih _ _ _ _ _ h
set_option maxRecDepth 20000 in
theorem rs_layGroups {l : Launch} {κ : KMt} {S : MS} {Z : MS} (x1 : Int32) (h : r_layGroups S x1 = some Z) : Go l (EM κ) RX12 cX12_layGroups 6 none 6 143 0 0 none Z 0 [(0, .ref κ.o), (1, .int x1)] [] S := by
  unfold r_layGroups at h
  refine Go.iconst 0 dX12_layGroups_0 (by decide) ?_
  refine Go.istore_n [(0, .ref κ.o), (1, .int x1), (2, .int 0)] dX12_layGroups_1 (by decide) rfl ?_
  exact rs_layGroups_2 _ _ _ _ h
set_option maxRecDepth 20000 in
theorem rt_layGroups {l : Launch} {κ : KMt} {S : MS} (x1 : Int32) : ∀ Z, r_layGroups S x1 = some Z → MtM l κ yX12_layGroups cX12_layGroups 6 none 6 143 [.ref κ.o, .int x1] S none Z := fun Z h => MtM.of (by decide +kernel) rfl (Nat.le_of_ble_eq_true rfl) ⟨rfl, rfl, trivial⟩ (rs_layGroups x1 h)
