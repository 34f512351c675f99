/-! isFirst -/
def r_isFirst_2 (S : MS)  : Nat → Int32 → Int32 → Option (Int32)
  | 0, _, _ => none
  | n + 1, x1, x2 => if x1 ≤ x2 then zb 1 else (rd S 24 x2).bind (fun v1 => (rd S 24 x1).bind (fun v2 => if v1 = v2 then zb 0 else r_isFirst_2 S n x1 (x2 + 1)))
def r_isFirst (S : MS) (x1 : Int32) : Option (Int32) := r_isFirst_2 S FU x1 0
set_option maxRecDepth 20000 in
theorem rs_isFirst_2 {l : Launch} {κ : KMt} {S : MS} {Z : Int32} (n : Nat) : ∀ (x1 : Int32) (x2 : Int32), r_isFirst_2 S n x1 x2 = some Z → Go l (EM κ) RX12 cX12_isFirst 3 (some .boolean) 0 0 0 0 (some (.int Z)) S 2 [(0, .ref κ.o), (1, .int x1), (2, .int x2)] [] S := by
  induction n with
  | zero => intro x1 x2 h; rw [r_isFirst_2] at h; cases h
  | succ n ih =>
    intro x1 x2 h
    rw [r_isFirst_2] at h
    refine Go.iload_n 2 dX12_isFirst_2 rfl ?_
    refine Go.iload_n 1 dX12_isFirst_3 rfl ?_
    refine Go.icmp_ge 30 dX12_isFirst_4 (by decide) h (fun h => ?_) (fun h => ?_)
    · refine Go.iconst 1 dX12_isFirst_30 (by decide) ?_
      exact Go.zret dX12_isFirst_31 rfl h
    · refine Go.aload_n 0 dX12_isFirst_7 rfl ?_
      refine GM.geta 40 24 (by decide) rfl fl_groupOf rfl dX12_isFirst_8 ?_
      refine Go.iload_n 2 dX12_isFirst_11 rfl ?_
      refine GM.iald 24 (by decide) rfl dX12_isFirst_12 h (fun v1 h => ?_)
      refine Go.aload_n 0 dX12_isFirst_13 rfl ?_
      refine GM.geta 40 24 (by decide) rfl fl_groupOf rfl dX12_isFirst_14 ?_
      refine Go.iload_n 1 dX12_isFirst_17 rfl ?_
      refine GM.iald 24 (by decide) rfl dX12_isFirst_18 h (fun v2 h => ?_)
      refine Go.icmp_ne 24 dX12_isFirst_19 (by decide) h (fun h => ?_) (fun h => ?_)
      · refine Go.iinc (w := 1) 2 [(0, .ref κ.o), (1, .int x1), (2, .int (x2 + 1))] dX12_isFirst_24 rfl (by decide) (by decide) rfl ?_
        refine Go.goto 2 dX12_isFirst_27 (by decide) ?_
        exact ih _ _ h
      · refine Go.iconst 0 dX12_isFirst_22 (by decide) ?_
        exact Go.zret dX12_isFirst_23 rfl h
set_option maxRecDepth 20000 in
theorem rs_isFirst {l : Launch} {κ : KMt} {S : MS} {Z : Int32} (x1 : Int32) (h : r_isFirst S x1 = some Z) : Go l (EM κ) RX12 cX12_isFirst 3 (some .boolean) 0 0 0 0 (some (.int Z)) S 0 [(0, .ref κ.o), (1, .int x1)] [] S := by
  unfold r_isFirst at h
  refine Go.iconst 0 dX12_isFirst_0 (by decide) ?_
  refine Go.istore_n [(0, .ref κ.o), (1, .int x1), (2, .int 0)] dX12_isFirst_1 (by decide) rfl ?_
  exact rs_isFirst_2 _ _ _ h
set_option maxRecDepth 20000 in
theorem rt_isFirst {l : Launch} {κ : KMt} {S : MS} (x1 : Int32) : ∀ Z, r_isFirst S x1 = some Z → MtM l κ yX12_isFirst cX12_isFirst 3 (some .boolean) 0 0 [.ref κ.o, .int x1] S (some (.int Z)) S := fun Z h => MtM.of (by decide +kernel) rfl (Nat.le_of_ble_eq_true rfl) ⟨rfl, rfl, trivial⟩ (rs_isFirst x1 h)
/-! groups -/
def r_groups_97 (k32 : Int32 → Int32 → Int32 → MS → Option (Int32 × MS)) (x2 : Int32) (x3 : Int32) (x4 : Int32) (S : MS) : Option (Int32 × MS) := k32 x2 x3 (x4 + 1) S
def r_groups_95 (k32 : Int32 → Int32 → Int32 → MS → Option (Int32 × MS)) (x2 : Int32) (x4 : Int32) (y0 : Int32) (y1 : Int32) (S : MS) : Option (Int32 × MS) := r_groups_97 k32 x2 (y0 + y1) x4 S
def r_groups_32  : Nat → Int32 → Int32 → Int32 → MS → Option (Int32 × MS)
  | 0, _, _, _, _ => none
  | n + 1, x2, x3, x4, S => if 40 ≤ x4 then some (x3, S) else (r_isThing S x4).bind (fun v1 => if v1 = 0 then r_groups_97 (r_groups_32 n) x2 x3 x4 S else if x2 = (-1) then (r_isFirst S x4).bind (fun v4 => if v4 = 0 then r_groups_95 (r_groups_32 n) x2 x4 x3 0 S else r_groups_95 (r_groups_32 n) x2 x4 x3 1 S) else (rd S 24 x4).bind (fun v2 => (rd S 24 x2).bind (fun v3 => if v2 = v3 then r_groups_95 (r_groups_32 n) x2 x4 x3 1 S else r_groups_95 (r_groups_32 n) x2 x4 x3 0 S)))
def r_groups_22  (x1 : Int32) (x2 : Int32) (S : MS) : Option (Int32 × MS) := (r_layGroups S x1).bind (fun S5 => r_groups_32 FU x2 0 0 S5)
def r_groups (S : MS) (x1 : Int32) (x2 : Int32) : Option (Int32 × MS) := (r_isFarNumber S x1).bind (fun v6 => if v6 = 0 then some ((-1), S) else if x2 = (-1) then r_groups_22 x1 x2 S else (r_isThing S x2).bind (fun v7 => if v7 = 0 then some ((-1), S) else r_groups_22 x1 x2 S))
set_option maxRecDepth 20000 in
theorem rs_groups_97 {l : Launch} {κ : KMt} {Z : Int32 × MS} (k32 : Int32 → Int32 → Int32 → MS → Option (Int32 × MS)) (h32 : ∀ (x2 : Int32) (x3 : Int32) (x4 : Int32) (S : MS), k32 x2 x3 x4 S = some Z → Go l (EM κ) RX12 cX12_groups 5 (some .int) 7 168 0 0 (some (.int Z.1)) Z.2 32 [(0, .ref κ.o), (2, .int x2), (3, .int x3), (4, .int x4)] [] S) (x2 : Int32) (x3 : Int32) (x4 : Int32) (S : MS) (h : r_groups_97 k32 x2 x3 x4 S = some Z) : Go l (EM κ) RX12 cX12_groups 5 (some .int) 7 168 0 0 (some (.int Z.1)) Z.2 97 [(0, .ref κ.o), (2, .int x2), (3, .int x3), (4, .int x4)] [] S := by
  unfold r_groups_97 at h
  refine Go.iinc (w := 1) 3 [(0, .ref κ.o), (2, .int x2), (3, .int x3), (4, .int (x4 + 1))] dX12_groups_97 rfl (by decide) (by decide) rfl ?_
  refine Go.goto 32 dX12_groups_100 (by decide) ?_
  exact h32 _ _ _ _ h
set_option maxRecDepth 20000 in
theorem rs_groups_95 {l : Launch} {κ : KMt} {Z : Int32 × MS} (k32 : Int32 → Int32 → Int32 → MS → Option (Int32 × MS)) (h32 : ∀ (x2 : Int32) (x3 : Int32) (x4 : Int32) (S : MS), k32 x2 x3 x4 S = some Z → Go l (EM κ) RX12 cX12_groups 5 (some .int) 7 168 0 0 (some (.int Z.1)) Z.2 32 [(0, .ref κ.o), (2, .int x2), (3, .int x3), (4, .int x4)] [] S) (x2 : Int32) (x4 : Int32) (y0 : Int32) (y1 : Int32) (S : MS) (h : r_groups_95 k32 x2 x4 y0 y1 S = some Z) : Go l (EM κ) RX12 cX12_groups 5 (some .int) 7 168 0 0 (some (.int Z.1)) Z.2 95 [(0, .ref κ.o), (2, .int x2), (4, .int x4)] [.int y1, .int y0] S := by
  unfold r_groups_95 at h
  refine Go.iadd dX12_groups_95 ?_
  refine Go.istore_n [(0, .ref κ.o), (2, .int x2), (3, .int (y0 + y1)), (4, .int x4)] dX12_groups_96 (by decide) rfl ?_
  exact rs_groups_97 _ h32 _ _ _ _ h
set_option maxRecDepth 20000 in
theorem rs_groups_32 {l : Launch} {κ : KMt} {Z : Int32 × MS} (n : Nat) : ∀ (x2 : Int32) (x3 : Int32) (x4 : Int32) (S : MS), r_groups_32 n x2 x3 x4 S = some Z → Go l (EM κ) RX12 cX12_groups 5 (some .int) 7 168 0 0 (some (.int Z.1)) Z.2 32 [(0, .ref κ.o), (2, .int x2), (3, .int x3), (4, .int x4)] [] S := by
  induction n with
  | zero => intro x2 x3 x4 S h; rw [r_groups_32] at h; cases h
  | succ n ih =>
    intro x2 x3 x4 S h
    rw [r_groups_32] at h
    refine Go.iload 3 dX12_groups_32 rfl ?_
    refine Go.bipush 40 dX12_groups_34 (by decide) ?_
    refine Go.icmp_ge 103 dX12_groups_36 (by decide) h (fun h => ?_) (fun h => ?_)
    · refine Go.iload_n 2 dX12_groups_103 rfl ?_
      cases h
      exact Go.iret dX12_groups_104 rfl
    · refine Go.aload_n 0 dX12_groups_39 rfl ?_
      refine Go.iload 3 dX12_groups_40 rfl ?_
      refine GM.callvr (rest := []) [.int x4] dX12_groups_42 ck_isThing ci_isThing (rt_isThing _) rfl rfl (Nat.le_of_ble_eq_true rfl) (Nat.le_of_ble_eq_true rfl) (Nat.le_of_ble_eq_true rfl) h (fun v1 h => ?_)
      refine Go.if_ne 51 dX12_groups_45 (by decide) h (fun h => ?_) (fun h => ?_)
      · refine Go.iload_n 2 dX12_groups_51 rfl ?_
        refine Go.iload_n 1 dX12_groups_52 rfl ?_
        refine Go.iconst (-1) dX12_groups_53 (by decide) ?_
        refine Go.icmp_ne 74 dX12_groups_54 (by decide) h (fun h => ?_) (fun h => ?_)
        · refine Go.aload_n 0 dX12_groups_74 rfl ?_
          refine GM.geta 40 24 (by decide) rfl fl_groupOf rfl dX12_groups_75 ?_
          refine Go.iload 3 dX12_groups_78 rfl ?_
          refine GM.iald 24 (by decide) rfl dX12_groups_80 h (fun v2 h => ?_)
          refine Go.aload_n 0 dX12_groups_81 rfl ?_
          refine GM.geta 40 24 (by decide) rfl fl_groupOf rfl dX12_groups_82 ?_
          refine Go.iload_n 1 dX12_groups_85 rfl ?_
          refine GM.iald 24 (by decide) rfl dX12_groups_86 h (fun v3 h => ?_)
          refine Go.icmp_ne 94 dX12_groups_87 (by decide) h (fun h => ?_) (fun h => ?_)
          · refine Go.iconst 0 dX12_groups_94 (by decide) ?_
            refine Go.sub [0, 1, 3] rfl ?_
            exact rs_groups_95 _ ih _ _ _ _ _ h
          · refine Go.iconst 1 dX12_groups_90 (by decide) ?_
            refine Go.goto 95 dX12_groups_91 (by decide) ?_
            refine Go.sub [0, 1, 3] rfl ?_
            exact rs_groups_95 _ ih _ _ _ _ _ h
        · refine Go.aload_n 0 dX12_groups_57 rfl ?_
          refine Go.iload 3 dX12_groups_58 rfl ?_
          refine GM.callvr (rest := [.int x3]) [.int x4] dX12_groups_60 ck_isFirst ci_isFirst (rt_isFirst _) rfl rfl (Nat.le_of_ble_eq_true rfl) (Nat.le_of_ble_eq_true rfl) (Nat.le_of_ble_eq_true rfl) h (fun v4 h => ?_)
          refine Go.if_eq 70 dX12_groups_63 (by decide) h (fun h => ?_) (fun h => ?_)
          · refine Go.iconst 0 dX12_groups_70 (by decide) ?_
            refine Go.goto 95 dX12_groups_71 (by decide) ?_
            refine Go.sub [0, 1, 3] rfl ?_
            exact rs_groups_95 _ ih _ _ _ _ _ h
          · refine Go.iconst 1 dX12_groups_66 (by decide) ?_
            refine Go.goto 95 dX12_groups_67 (by decide) ?_
            refine Go.sub [0, 1, 3] rfl ?_
            exact rs_groups_95 _ ih _ _ _ _ _ h
      · refine Go.goto 97 dX12_groups_48 (by decide) ?_
        exact rs_groups_97 _ ih _ _ _ _ h
set_option maxRecDepth 20000 in
theorem rs_groups_22 {l : Launch} {κ : KMt} {Z : Int32 × MS} (x1 : Int32) (x2 : Int32) (S : MS) (h : r_groups_22 x1 x2 S = some Z) : Go l (EM κ) RX12 cX12_groups 5 (some .int) 7 168 0 0 (some (.int Z.1)) Z.2 22 [(0, .ref κ.o), (1, .int x1), (2, .int x2)] [] S := by
  unfold r_groups_22 at h
  refine Go.aload_n 0 dX12_groups_22 rfl ?_
  refine Go.iload_n 1 dX12_groups_23 rfl ?_
  refine GM.callvu (rest := []) [.int x1] dX12_groups_24 ck_layGroups ci_layGroups (rt_layGroups _) rfl rfl (Nat.le_of_ble_eq_true rfl) (Nat.le_of_ble_eq_true rfl) (Nat.le_of_ble_eq_true rfl) h (fun S5 h => ?_)
  refine Go.iconst 0 dX12_groups_27 (by decide) ?_
  refine Go.istore_n [(0, .ref κ.o), (1, .int x1), (2, .int x2), (3, .int 0)] dX12_groups_28 (by decide) rfl ?_
  refine Go.iconst 0 dX12_groups_29 (by decide) ?_
  refine Go.istore [(0, .ref κ.o), (1, .int x1), (2, .int x2), (3, .int 0), (4, .int 0)] dX12_groups_30 (by decide) rfl ?_
  refine Go.sub [0, 2, 3, 4] rfl ?_
  exact rs_groups_32 _ _ _ _ _ h
set_option maxRecDepth 20000 in
theorem rs_groups {l : Launch} {κ : KMt} {S : MS} {Z : Int32 × MS} (x1 : Int32) (x2 : Int32) (h : r_groups S x1 x2 = some Z) : Go l (EM κ) RX12 cX12_groups 5 (some .int) 7 168 0 0 (some (.int Z.1)) Z.2 0 [(0, .ref κ.o), (1, .int x1), (2, .int x2)] [] S := by
  unfold r_groups at h
  refine Go.iload_n 1 dX12_groups_0 rfl ?_
  refine GM.callsr (rest := []) [.int x1] dX12_groups_1 ck_isFarNumber ci_isFarNumber (rt_isFarNumber _) rfl rfl (Nat.le_of_ble_eq_true rfl) (Nat.le_of_ble_eq_true rfl) (Nat.le_of_ble_eq_true rfl) h (fun v6 h => ?_)
  refine Go.if_eq 20 dX12_groups_4 (by decide) h (fun h => ?_) (fun h => ?_)
  · refine Go.iconst (-1) dX12_groups_20 (by decide) ?_
    cases h
    exact Go.iret dX12_groups_21 rfl
  · refine Go.iload_n 2 dX12_groups_7 rfl ?_
    refine Go.iconst (-1) dX12_groups_8 (by decide) ?_
    refine Go.icmp_eq 22 dX12_groups_9 (by decide) h (fun h => ?_) (fun h => ?_)
    · exact rs_groups_22 _ _ _ h
    · refine Go.aload_n 0 dX12_groups_12 rfl ?_
      refine Go.iload_n 2 dX12_groups_13 rfl ?_
      refine GM.callvr (rest := []) [.int x2] dX12_groups_14 ck_isThing ci_isThing (rt_isThing _) rfl rfl (Nat.le_of_ble_eq_true rfl) (Nat.le_of_ble_eq_true rfl) (Nat.le_of_ble_eq_true rfl) h (fun v7 h => ?_)
      refine Go.if_ne 22 dX12_groups_17 (by decide) h (fun h => ?_) (fun h => ?_)
      · exact rs_groups_22 _ _ _ h
      · refine Go.iconst (-1) dX12_groups_20 (by decide) ?_
        cases h
        exact Go.iret dX12_groups_21 rfl
set_option maxRecDepth 20000 in
theorem rt_groups {l : Launch} {κ : KMt} {S : MS} (x1 : Int32) (x2 : Int32) : ∀ Z, r_groups S x1 x2 = some Z → MtM l κ yX12_groups cX12_groups 5 (some .int) 7 168 [.ref κ.o, .int x1, .int x2] S (some (.int Z.1)) Z.2 := fun Z h => MtM.of (by decide +kernel) rfl (Nat.le_of_ble_eq_true rfl) ⟨rfl, rfl, rfl, trivial⟩ (rs_groups x1 x2 h)
/-! layChain -/
def r_layChain_143 (k42 : Int32 → Int32 → MS → Option (Int32 × MS)) (x2 : Int32) (x4 : Int32) (S : MS) : Option (Int32 × MS) := k42 x2 x4 S
def r_layChain_115 (k42 : Int32 → Int32 → MS → Option (Int32 × MS)) (k70 : Int32 → Int32 → Int32 → Int32 → MS → Option (Int32 × MS)) (x2 : Int32) (x3 : Int32) (x4 : Int32) (x5 : Int32) (S : MS) : Option (Int32 × MS) := k70 x2 x3 x4 (x5 + 1) S
def r_layChain_111 (k42 : Int32 → Int32 → MS → Option (Int32 × MS)) (k70 : Int32 → Int32 → Int32 → Int32 → MS → Option (Int32 × MS)) (x2 : Int32) (x3 : Int32) (x5 : Int32) (S : MS) : Option (Int32 × MS) := r_layChain_115 k42 k70 x2 x3 x5 x5 S
def r_layChain_70 (k42 : Int32 → Int32 → MS → Option (Int32 × MS)) : Nat → Int32 → Int32 → Int32 → Int32 → MS → Option (Int32 × MS)
  | 0, _, _, _, _, _ => none
  | n + 1, x2, x3, x4, x5, S => if 40 ≤ x5 then if x4 = (-1) then r_layChain_143 k42 x2 x4 S else bd2 (r_farOf S x3 x4) (fun v1 S2 => r_layChain_143 k42 x2 x4 (pf S2 42 ((S.2 42) + v1))) else (rd S 23 x5).bind (fun v3 => if v3 = (-1) then r_layChain_115 k42 (r_layChain_70 k42 n) x2 x3 x4 x5 S else if x4 = (-1) then r_layChain_111 k42 (r_layChain_70 k42 n) x2 x3 x5 S else bd2 (r_farOf S x3 x5) (fun v4 S5 => bd2 (r_farOf S5 x3 x4) (fun v6 S7 => if v6 ≤ v4 then r_layChain_115 k42 (r_layChain_70 k42 n) x2 x3 x4 x5 S7 else r_layChain_111 k42 (r_layChain_70 k42 n) x2 x3 x5 S7)))
def r_layChain_42  : Nat → Int32 → Int32 → MS → Option (Int32 × MS)
  | 0, _, _, _ => none
  | n + 1, x2, x3, S => if x3 = (-1) then some (x2, S) else (wr S 25 x2 x3).bind (fun S8 => (wr S8 23 x3 (-1)).bind (fun S9 => r_layChain_70 (r_layChain_42 n) FU (x2 + 1) x3 (-1) 0 S9))
def r_layChain_26 (k2 : Int32 → Int32 → MS → Option (Int32 × MS)) (x1 : Int32) (x2 : Int32) (y1 : Int32) (y2 : Int32) (S : MS) : Option (Int32 × MS) := (wr S 23 y1 y2).bind (fun S10 => k2 x1 (x2 + 1) S10)
def r_layChain_2  : Nat → Int32 → Int32 → MS → Option (Int32 × MS)
  | 0, _, _, _ => none
  | n + 1, x1, x2, S => if 40 ≤ x2 then r_layChain_42 FU 0 x1 (pf S 42 0) else (r_isThing S x2).bind (fun v11 => if v11 = 0 then r_layChain_26 (r_layChain_2 n) x1 x2 x2 (-1) S else r_layChain_26 (r_layChain_2 n) x1 x2 x2 0 S)
def r_layChain (S : MS) (x1 : Int32) : Option (Int32 × MS) := r_layChain_2 FU x1 0 S
set_option maxRecDepth 20000 in
theorem rs_layChain_143 {l : Launch} {κ : KMt} {Z : Int32 × MS} (k42 : Int32 → Int32 → MS → Option (Int32 × MS)) (h42 : ∀ (x2 : Int32) (x3 : Int32) (S : MS), k42 x2 x3 S = some Z → Go l (EM κ) RX12 cX12_layChain 6 (some .int) 6 143 0 0 (some (.int Z.1)) Z.2 42 [(0, .ref κ.o), (2, .int x2), (3, .int x3)] [] S) (x2 : Int32) (x4 : Int32) (S : MS) (h : r_layChain_143 k42 x2 x4 S = some Z) : Go l (EM κ) RX12 cX12_layChain 6 (some .int) 6 143 0 0 (some (.int Z.1)) Z.2 143 [(0, .ref κ.o), (2, .int x2), (4, .int x4)] [] S := by
  unfold r_layChain_143 at h
  refine Go.iload 2 dX12_layChain_143 rfl ?_
  refine Go.istore_n [(0, .ref κ.o), (2, .int x2), (3, .int x4), (4, .int x4)] dX12_layChain_145 (by decide) rfl ?_
  refine Go.goto 42 dX12_layChain_146 (by decide) ?_
  refine Go.sub [0, 1, 2] rfl ?_
  exact h42 _ _ _ h
set_option maxRecDepth 20000 in
theorem rs_layChain_115 {l : Launch} {κ : KMt} {Z : Int32 × MS} (k42 : Int32 → Int32 → MS → Option (Int32 × MS)) (h42 : ∀ (x2 : Int32) (x3 : Int32) (S : MS), k42 x2 x3 S = some Z → Go l (EM κ) RX12 cX12_layChain 6 (some .int) 6 143 0 0 (some (.int Z.1)) Z.2 42 [(0, .ref κ.o), (2, .int x2), (3, .int x3)] [] S) (k70 : Int32 → Int32 → Int32 → Int32 → MS → Option (Int32 × MS)) (h70 : ∀ (x2 : Int32) (x3 : Int32) (x4 : Int32) (x5 : Int32) (S : MS), k70 x2 x3 x4 x5 S = some Z → Go l (EM κ) RX12 cX12_layChain 6 (some .int) 6 143 0 0 (some (.int Z.1)) Z.2 70 [(0, .ref κ.o), (2, .int x2), (3, .int x3), (4, .int x4), (5, .int x5)] [] S) (x2 : Int32) (x3 : Int32) (x4 : Int32) (x5 : Int32) (S : MS) (h : r_layChain_115 k42 k70 x2 x3 x4 x5 S = some Z) : Go l (EM κ) RX12 cX12_layChain 6 (some .int) 6 143 0 0 (some (.int Z.1)) Z.2 115 [(0, .ref κ.o), (2, .int x2), (3, .int x3), (4, .int x4), (5, .int x5)] [] S := by
  unfold r_layChain_115 at h
  refine Go.iinc (w := 1) 4 [(0, .ref κ.o), (2, .int x2), (3, .int x3), (4, .int x4), (5, .int (x5 + 1))] dX12_layChain_115 rfl (by decide) (by decide) rfl ?_
  refine Go.goto 70 dX12_layChain_118 (by decide) ?_
  exact h70 _ _ _ _ _ h
set_option maxRecDepth 20000 in
theorem rs_layChain_111 {l : Launch} {κ : KMt} {Z : Int32 × MS} (k42 : Int32 → Int32 → MS → Option (Int32 × MS)) (h42 : ∀ (x2 : Int32) (x3 : Int32) (S : MS), k42 x2 x3 S = some Z → Go l (EM κ) RX12 cX12_layChain 6 (some .int) 6 143 0 0 (some (.int Z.1)) Z.2 42 [(0, .ref κ.o), (2, .int x2), (3, .int x3)] [] S) (k70 : Int32 → Int32 → Int32 → Int32 → MS → Option (Int32 × MS)) (h70 : ∀ (x2 : Int32) (x3 : Int32) (x4 : Int32) (x5 : Int32) (S : MS), k70 x2 x3 x4 x5 S = some Z → Go l (EM κ) RX12 cX12_layChain 6 (some .int) 6 143 0 0 (some (.int Z.1)) Z.2 70 [(0, .ref κ.o), (2, .int x2), (3, .int x3), (4, .int x4), (5, .int x5)] [] S) (x2 : Int32) (x3 : Int32) (x5 : Int32) (S : MS) (h : r_layChain_111 k42 k70 x2 x3 x5 S = some Z) : Go l (EM κ) RX12 cX12_layChain 6 (some .int) 6 143 0 0 (some (.int Z.1)) Z.2 111 [(0, .ref κ.o), (2, .int x2), (3, .int x3), (5, .int x5)] [] S := by
  unfold r_layChain_111 at h
  refine Go.iload 3 dX12_layChain_111 rfl ?_
  refine Go.istore [(0, .ref κ.o), (2, .int x2), (3, .int x3), (4, .int x5), (5, .int x5)] dX12_layChain_113 (by decide) rfl ?_
  exact rs_layChain_115 _ h42 _ h70 _ _ _ _ _ h
set_option maxRecDepth 20000 in
theorem rs_layChain_70 {l : Launch} {κ : KMt} {Z : Int32 × MS} (k42 : Int32 → Int32 → MS → Option (Int32 × MS)) (h42 : ∀ (x2 : Int32) (x3 : Int32) (S : MS), k42 x2 x3 S = some Z → Go l (EM κ) RX12 cX12_layChain 6 (some .int) 6 143 0 0 (some (.int Z.1)) Z.2 42 [(0, .ref κ.o), (2, .int x2), (3, .int x3)] [] S) (n : Nat) : ∀ (x2 : Int32) (x3 : Int32) (x4 : Int32) (x5 : Int32) (S : MS), r_layChain_70 k42 n x2 x3 x4 x5 S = some Z → Go l (EM κ) RX12 cX12_layChain 6 (some .int) 6 143 0 0 (some (.int Z.1)) Z.2 70 [(0, .ref κ.o), (2, .int x2), (3, .int x3), (4, .int x4), (5, .int x5)] [] S := by
  induction n with
  | zero => intro x2 x3 x4 x5 S h; rw [r_layChain_70] at h; cases h
  | succ n ih =>
    intro x2 x3 x4 x5 S h
    rw [r_layChain_70] at h
    refine Go.iload 4 dX12_layChain_70 rfl ?_
    refine Go.bipush 40 dX12_layChain_72 (by decide) ?_
    refine Go.icmp_ge 121 dX12_layChain_74 (by decide) h (fun h => ?_) (fun h => ?_)
    · refine Go.iload 3 dX12_layChain_121 rfl ?_
      refine Go.iconst (-1) dX12_layChain_123 (by decide) ?_
      refine Go.icmp_eq 143 dX12_layChain_124 (by decide) h (fun h => ?_) (fun h => ?_)
      · refine Go.sub [0, 1, 3] rfl ?_
        exact rs_layChain_143 _ h42 _ _ _ h
      · refine Go.aload_n 0 dX12_layChain_127 rfl ?_
        refine Go.dup dX12_layChain_128 rfl ?_
        refine GM.geti 42 (by decide) rfl fl_chainSum rfl dX12_layChain_129 ?_
        refine Go.aload_n 0 dX12_layChain_132 rfl ?_
        refine Go.iload_n 2 dX12_layChain_133 rfl ?_
        refine Go.iload 3 dX12_layChain_134 rfl ?_
        refine GM.callvw (rest := [.int (S.2 42), .ref κ.o]) [.int x3, .int x4] dX12_layChain_136 ck_farOf ci_farOf (rt_farOf _ _) rfl rfl (Nat.le_of_ble_eq_true rfl) (Nat.le_of_ble_eq_true rfl) (Nat.le_of_ble_eq_true rfl) h (fun v1 S2 h => ?_)
        refine Go.iadd dX12_layChain_139 ?_
        refine GM.puti 42 (by decide) rfl fl_chainSum rfl rfl rfl rfl dX12_layChain_140 ?_
        refine Go.sub [0, 1, 3] rfl ?_
        exact rs_layChain_143 _ h42 _ _ _ h
    · refine Go.aload_n 0 dX12_layChain_77 rfl ?_
      refine GM.geta 39 23 (by decide) rfl fl_nearest rfl dX12_layChain_78 ?_
      refine Go.iload 4 dX12_layChain_81 rfl ?_
      refine GM.iald 23 (by decide) rfl dX12_layChain_83 h (fun v3 h => ?_)
      refine Go.iconst (-1) dX12_layChain_84 (by decide) ?_
      refine Go.icmp_eq 115 dX12_layChain_85 (by decide) h (fun h => ?_) (fun h => ?_)
      · exact rs_layChain_115 _ h42 _ ih _ _ _ _ _ h
      · refine Go.iload 3 dX12_layChain_88 rfl ?_
        refine Go.iconst (-1) dX12_layChain_90 (by decide) ?_
        refine Go.icmp_eq 111 dX12_layChain_91 (by decide) h (fun h => ?_) (fun h => ?_)
        · refine Go.sub [0, 1, 2, 4] rfl ?_
          exact rs_layChain_111 _ h42 _ ih _ _ _ _ h
        · refine Go.aload_n 0 dX12_layChain_94 rfl ?_
          refine Go.iload_n 2 dX12_layChain_95 rfl ?_
          refine Go.iload 4 dX12_layChain_96 rfl ?_
          refine GM.callvw (rest := []) [.int x3, .int x5] dX12_layChain_98 ck_farOf ci_farOf (rt_farOf _ _) rfl rfl (Nat.le_of_ble_eq_true rfl) (Nat.le_of_ble_eq_true rfl) (Nat.le_of_ble_eq_true rfl) h (fun v4 S5 h => ?_)
          refine Go.aload_n 0 dX12_layChain_101 rfl ?_
          refine Go.iload_n 2 dX12_layChain_102 rfl ?_
          refine Go.iload 3 dX12_layChain_103 rfl ?_
          refine GM.callvw (rest := [.int v4]) [.int x3, .int x4] dX12_layChain_105 ck_farOf ci_farOf (rt_farOf _ _) rfl rfl (Nat.le_of_ble_eq_true rfl) (Nat.le_of_ble_eq_true rfl) (Nat.le_of_ble_eq_true rfl) h (fun v6 S7 h => ?_)
          refine Go.icmp_ge 115 dX12_layChain_108 (by decide) h (fun h => ?_) (fun h => ?_)
          · exact rs_layChain_115 _ h42 _ ih _ _ _ _ _ h
          · refine Go.sub [0, 1, 2, 4] rfl ?_
            exact rs_layChain_111 _ h42 _ ih _ _ _ _ h
set_option maxRecDepth 20000 in
theorem rs_layChain_42 {l : Launch} {κ : KMt} {Z : Int32 × MS} (n : Nat) : ∀ (x2 : Int32) (x3 : Int32) (S : MS), r_layChain_42 n x2 x3 S = some Z → Go l (EM κ) RX12 cX12_layChain 6 (some .int) 6 143 0 0 (some (.int Z.1)) Z.2 42 [(0, .ref κ.o), (2, .int x2), (3, .int x3)] [] S := by
  induction n with
  | zero => intro x2 x3 S h; rw [r_layChain_42] at h; cases h
  | succ n ih =>
    intro x2 x3 S h
    rw [r_layChain_42] at h
    refine Go.iload_n 2 dX12_layChain_42 rfl ?_
    refine Go.iconst (-1) dX12_layChain_43 (by decide) ?_
    refine Go.icmp_eq 149 dX12_layChain_44 (by decide) h (fun h => ?_) (fun h => ?_)
    · refine Go.iload_n 1 dX12_layChain_149 rfl ?_
      cases h
      exact Go.iret dX12_layChain_150 rfl
    · refine Go.aload_n 0 dX12_layChain_47 rfl ?_
      refine GM.geta 41 25 (by decide) rfl fl_chain rfl dX12_layChain_48 ?_
      refine Go.iload_n 1 dX12_layChain_51 rfl ?_
      refine Go.iload_n 2 dX12_layChain_52 rfl ?_
      refine GM.iast 25 (by decide) rfl dX12_layChain_53 h (fun S8 h => ?_)
      refine Go.iinc (w := 1) 1 [(0, .ref κ.o), (2, .int (x2 + 1)), (3, .int x3)] dX12_layChain_54 rfl (by decide) (by decide) rfl ?_
      refine Go.aload_n 0 dX12_layChain_57 rfl ?_
      refine GM.geta 39 23 (by decide) rfl fl_nearest rfl dX12_layChain_58 ?_
      refine Go.iload_n 2 dX12_layChain_61 rfl ?_
      refine Go.iconst (-1) dX12_layChain_62 (by decide) ?_
      refine GM.iast 23 (by decide) rfl dX12_layChain_63 h (fun S9 h => ?_)
      refine Go.iconst (-1) dX12_layChain_64 (by decide) ?_
      refine Go.istore [(0, .ref κ.o), (2, .int (x2 + 1)), (3, .int x3), (4, .int (-1))] dX12_layChain_65 (by decide) rfl ?_
      refine Go.iconst 0 dX12_layChain_67 (by decide) ?_
      refine Go.istore [(0, .ref κ.o), (2, .int (x2 + 1)), (3, .int x3), (4, .int (-1)), (5, .int 0)] dX12_layChain_68 (by decide) rfl ?_
      exact rs_layChain_70 _ ih _ _ _ _ _ _ h
set_option maxRecDepth 20000 in
theorem rs_layChain_26 {l : Launch} {κ : KMt} {Z : Int32 × MS} (k2 : Int32 → Int32 → MS → Option (Int32 × MS)) (h2 : ∀ (x1 : Int32) (x2 : Int32) (S : MS), k2 x1 x2 S = some Z → Go l (EM κ) RX12 cX12_layChain 6 (some .int) 6 143 0 0 (some (.int Z.1)) Z.2 2 [(0, .ref κ.o), (1, .int x1), (2, .int x2)] [] S) (x1 : Int32) (x2 : Int32) (y1 : Int32) (y2 : Int32) (S : MS) (h : r_layChain_26 k2 x1 x2 y1 y2 S = some Z) : Go l (EM κ) RX12 cX12_layChain 6 (some .int) 6 143 0 0 (some (.int Z.1)) Z.2 26 [(0, .ref κ.o), (1, .int x1), (2, .int x2)] [.int y2, .int y1, .ref (κ.o + 1 + 23)] S := by
  unfold r_layChain_26 at h
  refine GM.iast 23 (by decide) rfl dX12_layChain_26 h (fun S10 h => ?_)
  refine Go.iinc (w := 1) 2 [(0, .ref κ.o), (1, .int x1), (2, .int (x2 + 1))] dX12_layChain_27 rfl (by decide) (by decide) rfl ?_
  refine Go.goto 2 dX12_layChain_30 (by decide) ?_
  exact h2 _ _ _ h
set_option maxRecDepth 20000 in
theorem rs_layChain_2 {l : Launch} {κ : KMt} {Z : Int32 × MS} (n : Nat) : ∀ (x1 : Int32) (x2 : Int32) (S : MS), r_layChain_2 n x1 x2 S = some Z → Go l (EM κ) RX12 cX12_layChain 6 (some .int) 6 143 0 0 (some (.int Z.1)) Z.2 2 [(0, .ref κ.o), (1, .int x1), (2, .int x2)] [] S := by
  induction n with
  | zero => intro x1 x2 S h; rw [r_layChain_2] at h; cases h
  | succ n ih =>
    intro x1 x2 S h
    rw [r_layChain_2] at h
    refine Go.iload_n 2 dX12_layChain_2 rfl ?_
    refine Go.bipush 40 dX12_layChain_3 (by decide) ?_
    refine Go.icmp_ge 33 dX12_layChain_5 (by decide) h (fun h => ?_) (fun h => ?_)
    · refine Go.iconst 0 dX12_layChain_33 (by decide) ?_
      refine Go.istore_n [(0, .ref κ.o), (1, .int x1), (2, .int 0)] dX12_layChain_34 (by decide) rfl ?_
      refine Go.iload_n 1 dX12_layChain_35 rfl ?_
      refine Go.istore_n [(0, .ref κ.o), (1, .int x1), (2, .int 0), (3, .int x1)] dX12_layChain_36 (by decide) rfl ?_
      refine Go.aload_n 0 dX12_layChain_37 rfl ?_
      refine Go.iconst 0 dX12_layChain_38 (by decide) ?_
      refine GM.puti 42 (by decide) rfl fl_chainSum rfl rfl rfl rfl dX12_layChain_39 ?_
      refine Go.sub [0, 2, 3] rfl ?_
      exact rs_layChain_42 _ _ _ _ h
    · refine Go.aload_n 0 dX12_layChain_8 rfl ?_
      refine GM.geta 39 23 (by decide) rfl fl_nearest rfl dX12_layChain_9 ?_
      refine Go.iload_n 2 dX12_layChain_12 rfl ?_
      refine Go.aload_n 0 dX12_layChain_13 rfl ?_
      refine Go.iload_n 2 dX12_layChain_14 rfl ?_
      refine GM.callvr (rest := [.int x2, .ref (κ.o + 1 + 23)]) [.int x2] dX12_layChain_15 ck_isThing ci_isThing (rt_isThing _) rfl rfl (Nat.le_of_ble_eq_true rfl) (Nat.le_of_ble_eq_true rfl) (Nat.le_of_ble_eq_true rfl) h (fun v11 h => ?_)
      refine Go.if_eq 25 dX12_layChain_18 (by decide) h (fun h => ?_) (fun h => ?_)
      · refine Go.iconst (-1) dX12_layChain_25 (by decide) ?_
        exact rs_layChain_26 _ ih _ _ _ _ _ h
      · refine Go.iconst 0 dX12_layChain_21 (by decide) ?_
        refine Go.goto 26 dX12_layChain_22 (by decide) ?_
        exact rs_layChain_26 _ ih _ _ _ _ _ h
set_option maxRecDepth 20000 in
theorem rs_layChain {l : Launch} {κ : KMt} {S : MS} {Z : Int32 × MS} (x1 : Int32) (h : r_layChain S x1 = some Z) : Go l (EM κ) RX12 cX12_layChain 6 (some .int) 6 143 0 0 (some (.int Z.1)) Z.2 0 [(0, .ref κ.o), (1, .int x1)] [] S := by
  unfold r_layChain at h
  refine Go.iconst 0 dX12_layChain_0 (by decide) ?_
  refine Go.istore_n [(0, .ref κ.o), (1, .int x1), (2, .int 0)] dX12_layChain_1 (by decide) rfl ?_
  exact rs_layChain_2 _ _ _ _ h
set_option maxRecDepth 20000 in
theorem rt_layChain {l : Launch} {κ : KMt} {S : MS} (x1 : Int32) : ∀ Z, r_layChain S x1 = some Z → MtM l κ yX12_layChain cX12_layChain 6 (some .int) 6 143 [.ref κ.o, .int x1] S (some (.int Z.1)) Z.2 := fun Z h => MtM.of (by decide +kernel) rfl (Nat.le_of_ble_eq_true rfl) ⟨rfl, rfl, trivial⟩ (rs_layChain x1 h)
/-! chain -/
def r_chain (S : MS) (x1 : Int32) (x2 : Int32) : Option (Int32 × MS) := (r_isThing S x1).bind (fun v1 => if v1 = 0 then some ((-1), S) else bd2 (r_layChain S x1) (fun v2 S3 => (r_isIn S3 x2 0 (v2 - 1)).bind (fun v4 => if v4 = 0 then some ((-1), S3) else (rd S3 25 x2).bind (fun v5 => some (v5, S3)))))
set_option maxRecDepth 20000 in
theorem rs_chain {l : Launch} {κ : KMt} {S : MS} {Z : Int32 × MS} (x1 : Int32) (x2 : Int32) (h : r_chain S x1 x2 = some Z) : Go l (EM κ) RX12 cX12_chain 3 (some .int) 7 168 0 0 (some (.int Z.1)) Z.2 0 [(0, .ref κ.o), (1, .int x1), (2, .int x2)] [] S := by
  unfold r_chain at h
  refine Go.aload_n 0 dX12_chain_0 rfl ?_
  refine Go.iload_n 1 dX12_chain_1 rfl ?_
  refine GM.callvr (rest := []) [.int x1] dX12_chain_2 ck_isThing ci_isThing (rt_isThing _) rfl rfl (Nat.le_of_ble_eq_true rfl) (Nat.le_of_ble_eq_true rfl) (Nat.le_of_ble_eq_true rfl) h (fun v1 h => ?_)
  refine Go.if_eq 32 dX12_chain_5 (by decide) h (fun h => ?_) (fun h => ?_)
  · refine Go.iconst (-1) dX12_chain_32 (by decide) ?_
    cases h
    exact Go.iret dX12_chain_33 rfl
  · refine Go.iload_n 2 dX12_chain_8 rfl ?_
    refine Go.iconst 0 dX12_chain_9 (by decide) ?_
    refine Go.aload_n 0 dX12_chain_10 rfl ?_
    refine Go.iload_n 1 dX12_chain_11 rfl ?_
    refine GM.callvw (rest := [.int 0, .int x2]) [.int x1] dX12_chain_12 ck_layChain ci_layChain (rt_layChain _) rfl rfl (Nat.le_of_ble_eq_true rfl) (Nat.le_of_ble_eq_true rfl) (Nat.le_of_ble_eq_true rfl) h (fun v2 S3 h => ?_)
    refine Go.iconst 1 dX12_chain_15 (by decide) ?_
    refine Go.isub dX12_chain_16 ?_
    refine GM.callsr (rest := []) [.int x2, .int 0, .int (v2 - 1)] dX12_chain_17 ck_isIn ci_isIn (rt_isIn _ _ _) rfl rfl (Nat.le_of_ble_eq_true rfl) (Nat.le_of_ble_eq_true rfl) (Nat.le_of_ble_eq_true rfl) h (fun v4 h => ?_)
    refine Go.if_eq 32 dX12_chain_20 (by decide) h (fun h => ?_) (fun h => ?_)
    · refine Go.iconst (-1) dX12_chain_32 (by decide) ?_
      cases h
      exact Go.iret dX12_chain_33 rfl
    · refine Go.aload_n 0 dX12_chain_23 rfl ?_
      refine GM.geta 41 25 (by decide) rfl fl_chain rfl dX12_chain_24 ?_
      refine Go.iload_n 2 dX12_chain_27 rfl ?_
      refine GM.iald 25 (by decide) rfl dX12_chain_28 h (fun v5 h => ?_)
      refine Go.goto 33 dX12_chain_29 (by decide) ?_
      cases h
      exact Go.iret dX12_chain_33 rfl
set_option maxRecDepth 20000 in
theorem rt_chain {l : Launch} {κ : KMt} {S : MS} (x1 : Int32) (x2 : Int32) : ∀ Z, r_chain S x1 x2 = some Z → MtM l κ yX12_chain cX12_chain 3 (some .int) 7 168 [.ref κ.o, .int x1, .int x2] S (some (.int Z.1)) Z.2 := fun Z h => MtM.of (by decide +kernel) rfl (Nat.le_of_ble_eq_true rfl) ⟨rfl, rfl, rfl, trivial⟩ (rs_chain x1 x2 h)
/-! chainLong -/
def r_chainLong (S : MS) (x1 : Int32) : Option (Int32 × MS) := (r_isThing S x1).bind (fun v1 => if v1 = 0 then some ((-1), S) else bd2 (r_layChain S x1) (fun v2 S3 => some ((S3.2 42), S3)))
set_option maxRecDepth 20000 in
theorem rs_chainLong {l : Launch} {κ : KMt} {S : MS} {Z : Int32 × MS} (x1 : Int32) (h : r_chainLong S x1 = some Z) : Go l (EM κ) RX12 cX12_chainLong 3 (some .int) 7 168 0 0 (some (.int Z.1)) Z.2 0 [(0, .ref κ.o), (1, .int x1)] [] S := by
  unfold r_chainLong at h
  refine Go.aload_n 0 dX12_chainLong_0 rfl ?_
  refine Go.iload_n 1 dX12_chainLong_1 rfl ?_
  refine GM.callvr (rest := []) [.int x1] dX12_chainLong_2 ck_isThing ci_isThing (rt_isThing _) rfl rfl (Nat.le_of_ble_eq_true rfl) (Nat.le_of_ble_eq_true rfl) (Nat.le_of_ble_eq_true rfl) h (fun v1 h => ?_)
  refine Go.if_ne 10 dX12_chainLong_5 (by decide) h (fun h => ?_) (fun h => ?_)
  · refine Go.aload_n 0 dX12_chainLong_10 rfl ?_
    refine Go.iload_n 1 dX12_chainLong_11 rfl ?_
    refine GM.callvw (rest := []) [.int x1] dX12_chainLong_12 ck_layChain ci_layChain (rt_layChain _) rfl rfl (Nat.le_of_ble_eq_true rfl) (Nat.le_of_ble_eq_true rfl) (Nat.le_of_ble_eq_true rfl) h (fun v2 S3 h => ?_)
    refine Go.istore_n [(0, .ref κ.o), (1, .int x1), (2, .int v2)] dX12_chainLong_15 (by decide) rfl ?_
    refine Go.aload_n 0 dX12_chainLong_16 rfl ?_
    refine GM.geti 42 (by decide) rfl fl_chainSum rfl dX12_chainLong_17 ?_
    cases h
    exact Go.iret dX12_chainLong_20 rfl
  · refine Go.iconst (-1) dX12_chainLong_8 (by decide) ?_
    cases h
    exact Go.iret dX12_chainLong_9 rfl
set_option maxRecDepth 20000 in
theorem rt_chainLong {l : Launch} {κ : KMt} {S : MS} (x1 : Int32) : ∀ Z, r_chainLong S x1 = some Z → MtM l κ yX12_chainLong cX12_chainLong 3 (some .int) 7 168 [.ref κ.o, .int x1] S (some (.int Z.1)) Z.2 := fun Z h => MtM.of (by decide +kernel) rfl (Nat.le_of_ble_eq_true rfl) ⟨rfl, rfl, trivial⟩ (rs_chainLong x1 h)
/-! four -/
def r_four_3  : Nat → Int32 → Int32 → MS → Option (MS)
  | 0, _, _, _ => none
  | n + 1, x1, x2, S => if x2 < 0 then some S else (wr S 26 (S.2 44) ((x1 >>> (x2 &&& 31)) &&& 255)).bind (fun S1 => r_four_3 n x1 (x2 + (-8)) (pf S1 44 ((S1.2 44) + 1)))
def r_four (S : MS) (x1 : Int32) : Option (MS) := r_four_3 FU x1 24 S
set_option maxRecDepth 20000 in
theorem rs_four_3 {l : Launch} {κ : KMt} {Z : MS} (n : Nat) : ∀ (x1 : Int32) (x2 : Int32) (S : MS), r_four_3 n x1 x2 S = some Z → Go l (EM κ) RX12 cX12_four 3 none 0 0 0 0 none Z 3 [(0, .ref κ.o), (1, .int x1), (2, .int x2)] [] S := by
  induction n with
  | zero => intro x1 x2 S h; rw [r_four_3] at h; cases h
  | succ n ih =>
    intro x1 x2 S h
    rw [r_four_3] at h
    refine Go.iload_n 2 dX12_four_3 rfl ?_
    refine Go.if_lt 39 dX12_four_4 (by decide) h (fun h => ?_) (fun h => ?_)
    · cases h
      exact Go.vret dX12_four_39 rfl
    · refine Go.aload_n 0 dX12_four_7 rfl ?_
      refine GM.geta 43 26 (by decide) rfl fl_sheet rfl dX12_four_8 ?_
      refine Go.aload_n 0 dX12_four_11 rfl ?_
      refine GM.geti 44 (by decide) rfl fl_sheeted rfl dX12_four_12 ?_
      refine Go.iload_n 1 dX12_four_15 rfl ?_
      refine Go.iload_n 2 dX12_four_16 rfl ?_
      refine Go.ishr dX12_four_17 ?_
      refine Go.sipush 255 dX12_four_18 (by decide) ?_
      refine Go.iand dX12_four_21 ?_
      refine GM.iast 26 (by decide) rfl dX12_four_22 h (fun S1 h => ?_)
      refine Go.aload_n 0 dX12_four_23 rfl ?_
      refine Go.dup dX12_four_24 rfl ?_
      refine GM.geti 44 (by decide) rfl fl_sheeted rfl dX12_four_25 ?_
      refine Go.iconst 1 dX12_four_28 (by decide) ?_
      refine Go.iadd dX12_four_29 ?_
      refine GM.puti 44 (by decide) rfl fl_sheeted rfl rfl rfl rfl dX12_four_30 ?_
      refine Go.iinc (w := (-8)) 2 [(0, .ref κ.o), (1, .int x1), (2, .int (x2 + (-8)))] dX12_four_33 rfl (by decide) (by decide) rfl ?_
      refine Go.goto 3 dX12_four_36 (by decide) ?_
      exact ih _ _ _ h
set_option maxRecDepth 20000 in
theorem rs_four {l : Launch} {κ : KMt} {S : MS} {Z : MS} (x1 : Int32) (h : r_four S x1 = some Z) : Go l (EM κ) RX12 cX12_four 3 none 0 0 0 0 none Z 0 [(0, .ref κ.o), (1, .int x1)] [] S := by
  unfold r_four at h
  refine Go.bipush 24 dX12_four_0 (by decide) ?_
  refine Go.istore_n [(0, .ref κ.o), (1, .int x1), (2, .int 24)] dX12_four_2 (by decide) rfl ?_
  exact rs_four_3 _ _ _ _ h
set_option maxRecDepth 20000 in
theorem rt_four {l : Launch} {κ : KMt} {S : MS} (x1 : Int32) : ∀ Z, r_four S x1 = some Z → MtM l κ yX12_four cX12_four 3 none 0 0 [.ref κ.o, .int x1] S none Z := fun Z h => MtM.of (by decide +kernel) rfl (Nat.le_of_ble_eq_true rfl) ⟨rfl, rfl, trivial⟩ (rs_four x1 h)
/-! feed -/
def r_feed (S : MS) (x1 : Int32) (x2 : Int32) (x3 : Int32) (x4 : Int32) (x5 : Int32) : Option (Int32 × MS) := if ((S.2 44) + 20) ≤ 300 then (r_four S x1).bind (fun S1 => (r_four S1 x2).bind (fun S2 => (r_four S2 x3).bind (fun S3 => (r_four S3 x4).bind (fun S4 => (r_four S4 x5).bind (fun S5 => some ((S5.2 44), S5)))))) else some ((-1), S)
set_option maxRecDepth 20000 in
theorem rs_feed {l : Launch} {κ : KMt} {S : MS} {Z : Int32 × MS} (x1 : Int32) (x2 : Int32) (x3 : Int32) (x4 : Int32) (x5 : Int32) (h : r_feed S x1 x2 x3 x4 x5 = some Z) : Go l (EM κ) RX12 cX12_feed 6 (some .int) 1 22 0 0 (some (.int Z.1)) Z.2 0 [(0, .ref κ.o), (1, .int x1), (2, .int x2), (3, .int x3), (4, .int x4), (5, .int x5)] [] S := by
  unfold r_feed at h
  refine Go.aload_n 0 dX12_feed_0 rfl ?_
  refine GM.geti 44 (by decide) rfl fl_sheeted rfl dX12_feed_1 ?_
  refine Go.bipush 20 dX12_feed_4 (by decide) ?_
  refine Go.iadd dX12_feed_6 ?_
  refine Go.sipush 300 dX12_feed_7 (by decide) ?_
  refine Go.icmp_le 15 dX12_feed_10 (by decide) h (fun h => ?_) (fun h => ?_)
  · refine Go.aload_n 0 dX12_feed_15 rfl ?_
    refine Go.iload_n 1 dX12_feed_16 rfl ?_
    refine GM.callvu (rest := []) [.int x1] dX12_feed_17 ck_four ci_four (rt_four _) rfl rfl (Nat.le_of_ble_eq_true rfl) (Nat.le_of_ble_eq_true rfl) (Nat.le_of_ble_eq_true rfl) h (fun S1 h => ?_)
    refine Go.aload_n 0 dX12_feed_20 rfl ?_
    refine Go.iload_n 2 dX12_feed_21 rfl ?_
    refine GM.callvu (rest := []) [.int x2] dX12_feed_22 ck_four ci_four (rt_four _) rfl rfl (Nat.le_of_ble_eq_true rfl) (Nat.le_of_ble_eq_true rfl) (Nat.le_of_ble_eq_true rfl) h (fun S2 h => ?_)
    refine Go.aload_n 0 dX12_feed_25 rfl ?_
    refine Go.iload_n 3 dX12_feed_26 rfl ?_
    refine GM.callvu (rest := []) [.int x3] dX12_feed_27 ck_four ci_four (rt_four _) rfl rfl (Nat.le_of_ble_eq_true rfl) (Nat.le_of_ble_eq_true rfl) (Nat.le_of_ble_eq_true rfl) h (fun S3 h => ?_)
    refine Go.aload_n 0 dX12_feed_30 rfl ?_
    refine Go.iload 4 dX12_feed_31 rfl ?_
    refine GM.callvu (rest := []) [.int x4] dX12_feed_33 ck_four ci_four (rt_four _) rfl rfl (Nat.le_of_ble_eq_true rfl) (Nat.le_of_ble_eq_true rfl) (Nat.le_of_ble_eq_true rfl) h (fun S4 h => ?_)
    refine Go.aload_n 0 dX12_feed_36 rfl ?_
    refine Go.iload 5 dX12_feed_37 rfl ?_
    refine GM.callvu (rest := []) [.int x5] dX12_feed_39 ck_four ci_four (rt_four _) rfl rfl (Nat.le_of_ble_eq_true rfl) (Nat.le_of_ble_eq_true rfl) (Nat.le_of_ble_eq_true rfl) h (fun S5 h => ?_)
    refine Go.aload_n 0 dX12_feed_42 rfl ?_
    refine GM.geti 44 (by decide) rfl fl_sheeted rfl dX12_feed_43 ?_
    cases h
    exact Go.iret dX12_feed_46 rfl
  · refine Go.iconst (-1) dX12_feed_13 (by decide) ?_
    cases h
    exact Go.iret dX12_feed_14 rfl
set_option maxRecDepth 20000 in
theorem rt_feed {l : Launch} {κ : KMt} {S : MS} (x1 : Int32) (x2 : Int32) (x3 : Int32) (x4 : Int32) (x5 : Int32) : ∀ Z, r_feed S x1 x2 x3 x4 x5 = some Z → MtM l κ yX12_feed cX12_feed 6 (some .int) 1 22 [.ref κ.o, .int x1, .int x2, .int x3, .int x4, .int x5] S (some (.int Z.1)) Z.2 := fun Z h => MtM.of (by decide +kernel) rfl (Nat.le_of_ble_eq_true rfl) ⟨rfl, rfl, rfl, rfl, rfl, rfl, trivial⟩ (rs_feed x1 x2 x3 x4 x5 h)
/-! end -/
def r_end (S : MS) (x1 : Int32) : Option (Int32 × MS) := (r_isIn S x1 0 (S.2 44)).bind (fun v1 => if v1 = 0 then some ((-1), S) else some (x1, (pf S 44 x1)))
set_option maxRecDepth 20000 in
theorem rs_end {l : Launch} {κ : KMt} {S : MS} {Z : Int32 × MS} (x1 : Int32) (h : r_end S x1 = some Z) : Go l (EM κ) RX12 cX12_end 2 (some .int) 1 22 0 0 (some (.int Z.1)) Z.2 0 [(0, .ref κ.o), (1, .int x1)] [] S := by
  unfold r_end at h
  refine Go.iload_n 1 dX12_end_0 rfl ?_
  refine Go.iconst 0 dX12_end_1 (by decide) ?_
  refine Go.aload_n 0 dX12_end_2 rfl ?_
  refine GM.geti 44 (by decide) rfl fl_sheeted rfl dX12_end_3 ?_
  refine GM.callsr (rest := []) [.int x1, .int 0, .int (S.2 44)] dX12_end_6 ck_isIn ci_isIn (rt_isIn _ _ _) rfl rfl (Nat.le_of_ble_eq_true rfl) (Nat.le_of_ble_eq_true rfl) (Nat.le_of_ble_eq_true rfl) h (fun v1 h => ?_)
  refine Go.if_ne 14 dX12_end_9 (by decide) h (fun h => ?_) (fun h => ?_)
  · refine Go.aload_n 0 dX12_end_14 rfl ?_
    refine Go.iload_n 1 dX12_end_15 rfl ?_
    refine GM.puti 44 (by decide) rfl fl_sheeted rfl rfl rfl rfl dX12_end_16 ?_
    refine Go.iload_n 1 dX12_end_19 rfl ?_
    cases h
    exact Go.iret dX12_end_20 rfl
  · refine Go.iconst (-1) dX12_end_12 (by decide) ?_
    cases h
    exact Go.iret dX12_end_13 rfl
set_option maxRecDepth 20000 in
theorem rt_end {l : Launch} {κ : KMt} {S : MS} (x1 : Int32) : ∀ Z, r_end S x1 = some Z → MtM l κ yX12_end cX12_end 2 (some .int) 1 22 [.ref κ.o, .int x1] S (some (.int Z.1)) Z.2 := fun Z h => MtM.of (by decide +kernel) rfl (Nat.le_of_ble_eq_true rfl) ⟨rfl, rfl, trivial⟩ (rs_end x1 h)
/-! byteAt -/
def r_byteAt (S : MS) (x1 : Int32) : Option (Int32) := if (S.2 44) ≤ x1 then some (-1) else (rd S 26 x1).bind (fun v1 => some v1)
set_option maxRecDepth 20000 in
theorem rs_byteAt {l : Launch} {κ : KMt} {S : MS} {Z : Int32} (x1 : Int32) (h : r_byteAt S x1 = some Z) : Go l (EM κ) RX12 cX12_byteAt 2 (some .int) 0 0 0 0 (some (.int Z)) S 0 [(0, .ref κ.o), (1, .int x1)] [] S := by
  unfold r_byteAt at h
  refine Go.iload_n 1 dX12_byteAt_0 rfl ?_
  refine Go.aload_n 0 dX12_byteAt_1 rfl ?_
  refine GM.geti 44 (by decide) rfl fl_sheeted rfl dX12_byteAt_2 ?_
  refine Go.icmp_ge 17 dX12_byteAt_5 (by decide) h (fun h => ?_) (fun h => ?_)
  · refine Go.iconst (-1) dX12_byteAt_17 (by decide) ?_
    cases h
    exact Go.iret dX12_byteAt_18 rfl
  · refine Go.aload_n 0 dX12_byteAt_8 rfl ?_
    refine GM.geta 43 26 (by decide) rfl fl_sheet rfl dX12_byteAt_9 ?_
    refine Go.iload_n 1 dX12_byteAt_12 rfl ?_
    refine GM.iald 26 (by decide) rfl dX12_byteAt_13 h (fun v1 h => ?_)
    refine Go.goto 18 dX12_byteAt_14 (by decide) ?_
    cases h
    exact Go.iret dX12_byteAt_18 rfl
set_option maxRecDepth 20000 in
theorem rt_byteAt {l : Launch} {κ : KMt} {S : MS} (x1 : Int32) : ∀ Z, r_byteAt S x1 = some Z → MtM l κ yX12_byteAt cX12_byteAt 2 (some .int) 0 0 [.ref κ.o, .int x1] S (some (.int Z)) S := fun Z h => MtM.of (by decide +kernel) rfl (Nat.le_of_ble_eq_true rfl) ⟨rfl, rfl, trivial⟩ (rs_byteAt x1 h)
/-! isLetter -/
def r_isLetter (S : MS) (x0 : Int32) : Option (Int32) := if x0 < 97 then zb 0 else if 122 < x0 then zb 0 else zb 1
set_option maxRecDepth 20000 in
theorem rs_isLetter {l : Launch} {κ : KMt} {S : MS} {Z : Int32} (x0 : Int32) (h : r_isLetter S x0 = some Z) : Go l (EM κ) RX12 cX12_isLetter 1 (some .boolean) 0 0 0 0 (some (.int Z)) S 0 [(0, .int x0)] [] S := by
  unfold r_isLetter at h
  refine Go.iload_n 0 dX12_isLetter_0 rfl ?_
  refine Go.bipush 97 dX12_isLetter_1 (by decide) ?_
  refine Go.icmp_lt 16 dX12_isLetter_3 (by decide) h (fun h => ?_) (fun h => ?_)
  · refine Go.iconst 0 dX12_isLetter_16 (by decide) ?_
    exact Go.zret dX12_isLetter_17 rfl h
  · refine Go.iload_n 0 dX12_isLetter_6 rfl ?_
    refine Go.bipush 122 dX12_isLetter_7 (by decide) ?_
    refine Go.icmp_gt 16 dX12_isLetter_9 (by decide) h (fun h => ?_) (fun h => ?_)
    · refine Go.iconst 0 dX12_isLetter_16 (by decide) ?_
      exact Go.zret dX12_isLetter_17 rfl h
    · refine Go.iconst 1 dX12_isLetter_12 (by decide) ?_
      refine Go.goto 17 dX12_isLetter_13 (by decide) ?_
      exact Go.zret dX12_isLetter_17 rfl h
set_option maxRecDepth 20000 in
theorem rt_isLetter {l : Launch} {κ : KMt} {S : MS} (x0 : Int32) : ∀ Z, r_isLetter S x0 = some Z → MtM l κ yX12_isLetter cX12_isLetter 1 (some .boolean) 0 0 [.int x0] S (some (.int Z)) S := fun Z h => MtM.of (by decide +kernel) rfl (Nat.le_of_ble_eq_true rfl) ⟨rfl, trivial⟩ (rs_isLetter x0 h)
/-! isFigure -/
def r_isFigure (S : MS) (x0 : Int32) : Option (Int32) := if x0 < 48 then zb 0 else if 57 < x0 then zb 0 else zb 1
set_option maxRecDepth 20000 in
theorem rs_isFigure {l : Launch} {κ : KMt} {S : MS} {Z : Int32} (x0 : Int32) (h : r_isFigure S x0 = some Z) : Go l (EM κ) RX12 cX12_isFigure 1 (some .boolean) 0 0 0 0 (some (.int Z)) S 0 [(0, .int x0)] [] S := by
  unfold r_isFigure at h
  refine Go.iload_n 0 dX12_isFigure_0 rfl ?_
  refine Go.bipush 48 dX12_isFigure_1 (by decide) ?_
  refine Go.icmp_lt 16 dX12_isFigure_3 (by decide) h (fun h => ?_) (fun h => ?_)
  · refine Go.iconst 0 dX12_isFigure_16 (by decide) ?_
    exact Go.zret dX12_isFigure_17 rfl h
  · refine Go.iload_n 0 dX12_isFigure_6 rfl ?_
    refine Go.bipush 57 dX12_isFigure_7 (by decide) ?_
    refine Go.icmp_gt 16 dX12_isFigure_9 (by decide) h (fun h => ?_) (fun h => ?_)
    · refine Go.iconst 0 dX12_isFigure_16 (by decide) ?_
      exact Go.zret dX12_isFigure_17 rfl h
    · refine Go.iconst 1 dX12_isFigure_12 (by decide) ?_
      refine Go.goto 17 dX12_isFigure_13 (by decide) ?_
      exact Go.zret dX12_isFigure_17 rfl h
set_option maxRecDepth 20000 in
theorem rt_isFigure {l : Launch} {κ : KMt} {S : MS} (x0 : Int32) : ∀ Z, r_isFigure S x0 = some Z → MtM l κ yX12_isFigure cX12_isFigure 1 (some .boolean) 0 0 [.int x0] S (some (.int Z)) S := fun Z h => MtM.of (by decide +kernel) rfl (Nat.le_of_ble_eq_true rfl) ⟨rfl, trivial⟩ (rs_isFigure x0 h)
/-! skip -/
def r_skip_0  : Nat → MS → Option (MS)
  | 0, _ => none
  | n + 1, S => (r_byteAt S (S.2 46)).bind (fun v1 => if v1 = 32 then r_skip_0 n (pf S 46 ((S.2 46) + 1)) else some (pf S 47 (S.2 46)))
def r_skip (S : MS)  : Option (MS) := (r_byteAt S (S.2 46)).bind (fun v2 => if v2 = 32 then r_skip_0 FU (pf S 46 ((S.2 46) + 1)) else some (pf S 47 (S.2 46)))
set_option maxRecDepth 20000 in
theorem rs_skip_0 {l : Launch} {κ : KMt} {Z : MS} (n : Nat) : ∀ (S : MS), r_skip_0 n S = some Z → Go l (EM κ) RX12 cX12_skip 1 none 1 21 0 0 none Z 0 [(0, .ref κ.o)] [] S := by
  induction n with
  | zero => intro S h; rw [r_skip_0] at h; cases h
  | succ n ih =>
    intro S h
    rw [r_skip_0] at h
    refine Go.aload_n 0 dX12_skip_0 rfl ?_
    refine Go.aload_n 0 dX12_skip_1 rfl ?_
    refine GM.geti 46 (by decide) rfl fl_from rfl dX12_skip_2 ?_
    refine GM.callvr (rest := []) [.int (S.2 46)] dX12_skip_5 ck_byteAt ci_byteAt (rt_byteAt _) rfl rfl (Nat.le_of_ble_eq_true rfl) (Nat.le_of_ble_eq_true rfl) (Nat.le_of_ble_eq_true rfl) h (fun v1 h => ?_)
    refine Go.bipush 32 dX12_skip_8 (by decide) ?_
    refine Go.icmp_ne 26 dX12_skip_10 (by decide) h (fun h => ?_) (fun h => ?_)
    · refine Go.aload_n 0 dX12_skip_26 rfl ?_
      refine Go.aload_n 0 dX12_skip_27 rfl ?_
      refine GM.geti 46 (by decide) rfl fl_from rfl dX12_skip_28 ?_
      refine GM.puti 47 (by decide) rfl fl_place rfl rfl rfl rfl dX12_skip_31 ?_
      cases h
      exact Go.vret dX12_skip_34 rfl
    · refine Go.aload_n 0 dX12_skip_13 rfl ?_
      refine Go.dup dX12_skip_14 rfl ?_
      refine GM.geti 46 (by decide) rfl fl_from rfl dX12_skip_15 ?_
      refine Go.iconst 1 dX12_skip_18 (by decide) ?_
      refine Go.iadd dX12_skip_19 ?_
      refine GM.puti 46 (by decide) rfl fl_from rfl rfl rfl rfl dX12_skip_20 ?_
      refine Go.goto 0 dX12_skip_23 (by decide) ?_
      exact ih _ h
set_option maxRecDepth 20000 in
theorem rs_skip {l : Launch} {κ : KMt} {S : MS} {Z : MS}  (h : r_skip S  = some Z) : Go l (EM κ) RX12 cX12_skip 1 none 1 21 0 0 none Z 0 [(0, .ref κ.o)] [] S := by
  unfold r_skip at h
  refine Go.aload_n 0 dX12_skip_0 rfl ?_
  refine Go.aload_n 0 dX12_skip_1 rfl ?_
  refine GM.geti 46 (by decide) rfl fl_from rfl dX12_skip_2 ?_
  refine GM.callvr (rest := []) [.int (S.2 46)] dX12_skip_5 ck_byteAt ci_byteAt (rt_byteAt _) rfl rfl (Nat.le_of_ble_eq_true rfl) (Nat.le_of_ble_eq_true rfl) (Nat.le_of_ble_eq_true rfl) h (fun v2 h => ?_)
  refine Go.bipush 32 dX12_skip_8 (by decide) ?_
  refine Go.icmp_ne 26 dX12_skip_10 (by decide) h (fun h => ?_) (fun h => ?_)
  · refine Go.aload_n 0 dX12_skip_26 rfl ?_
    refine Go.aload_n 0 dX12_skip_27 rfl ?_
    refine GM.geti 46 (by decide) rfl fl_from rfl dX12_skip_28 ?_
    refine GM.puti 47 (by decide) rfl fl_place rfl rfl rfl rfl dX12_skip_31 ?_
    cases h
    exact Go.vret dX12_skip_34 rfl
  · refine Go.aload_n 0 dX12_skip_13 rfl ?_
    refine Go.dup dX12_skip_14 rfl ?_
    refine GM.geti 46 (by decide) rfl fl_from rfl dX12_skip_15 ?_
    refine Go.iconst 1 dX12_skip_18 (by decide) ?_
    refine Go.iadd dX12_skip_19 ?_
    refine GM.puti 46 (by decide) rfl fl_from rfl rfl rfl rfl dX12_skip_20 ?_
    refine Go.goto 0 dX12_skip_23 (by decide) ?_
    exact rs_skip_0 _ _ h
set_option maxRecDepth 20000 in
theorem rt_skip {l : Launch} {κ : KMt} {S : MS}  : ∀ Z, r_skip S  = some Z → MtM l κ yX12_skip cX12_skip 1 none 1 21 [.ref κ.o] S none Z := fun Z h => MtM.of (by decide +kernel) rfl (Nat.le_of_ble_eq_true rfl) ⟨rfl, trivial⟩ (rs_skip  h)
/-! readLetters -/
def r_readLetters_73 (k4 : Int32 → Int32 → MS → Option (Int32 × MS)) (x1 : Int32) (x2 : Int32) (S : MS) : Option (Int32 × MS) := k4 x1 x2 (pf S 46 ((S.2 46) + 1))
def r_readLetters_61 (k4 : Int32 → Int32 → MS → Option (Int32 × MS)) (x1 : Int32) (x3 : Int32) (y0 : Int32) (S : MS) : Option (Int32 × MS) := if y0 = 0 then r_readLetters_73 k4 x1 y0 S else r_readLetters_73 k4 ((9 * x1) + x3) y0 S
def r_readLetters_60 (k4 : Int32 → Int32 → MS → Option (Int32 × MS)) (x1 : Int32) (x3 : Int32) (S : MS) : Option (Int32 × MS) := r_readLetters_61 k4 x1 x3 0 S
def r_readLetters_4  : Nat → Int32 → Int32 → MS → Option (Int32 × MS)
  | 0, _, _, _ => none
  | n + 1, x1, x2, S => (r_byteAt S (S.2 46)).bind (fun v1 => (r_isLetter S v1).bind (fun v2 => if v2 = 0 then if x2 = 0 then some ((-1), S) else if x1 ≤ 0 then some ((-1), S) else some (x1, S) else (r_byteAt S (S.2 46)).bind (fun v3 => if x2 = 0 then r_readLetters_60 (r_readLetters_4 n) x1 ((v3 - 97) + 1) S else if 8 < ((v3 - 97) + 1) then r_readLetters_60 (r_readLetters_4 n) x1 ((v3 - 97) + 1) S else if 6 ≤ ((S.2 46) - (S.2 47)) then r_readLetters_60 (r_readLetters_4 n) x1 ((v3 - 97) + 1) S else r_readLetters_61 (r_readLetters_4 n) x1 ((v3 - 97) + 1) 1 S)))
def r_readLetters (S : MS)  : Option (Int32 × MS) := r_readLetters_4 FU 0 1 S
set_option maxRecDepth 20000 in
theorem rs_readLetters_73 {l : Launch} {κ : KMt} {Z : Int32 × MS} (k4 : Int32 → Int32 → MS → Option (Int32 × MS)) (h4 : ∀ (x1 : Int32) (x2 : Int32) (S : MS), k4 x1 x2 S = some Z → Go l (EM κ) RX12 cX12_readLetters 4 (some .int) 1 21 0 0 (some (.int Z.1)) Z.2 4 [(0, .ref κ.o), (1, .int x1), (2, .int x2)] [] S) (x1 : Int32) (x2 : Int32) (S : MS) (h : r_readLetters_73 k4 x1 x2 S = some Z) : Go l (EM κ) RX12 cX12_readLetters 4 (some .int) 1 21 0 0 (some (.int Z.1)) Z.2 73 [(0, .ref κ.o), (1, .int x1), (2, .int x2)] [] S := by
  unfold r_readLetters_73 at h
  refine Go.aload_n 0 dX12_readLetters_73 rfl ?_
  refine Go.dup dX12_readLetters_74 rfl ?_
  refine GM.geti 46 (by decide) rfl fl_from rfl dX12_readLetters_75 ?_
  refine Go.iconst 1 dX12_readLetters_78 (by decide) ?_
  refine Go.iadd dX12_readLetters_79 ?_
  refine GM.puti 46 (by decide) rfl fl_from rfl rfl rfl rfl dX12_readLetters_80 ?_
  refine Go.goto 4 dX12_readLetters_83 (by decide) ?_
  exact h4 _ _ _ h
set_option maxRecDepth 20000 in
theorem rs_readLetters_61 {l : Launch} {κ : KMt} {Z : Int32 × MS} (k4 : Int32 → Int32 → MS → Option (Int32 × MS)) (h4 : ∀ (x1 : Int32) (x2 : Int32) (S : MS), k4 x1 x2 S = some Z → Go l (EM κ) RX12 cX12_readLetters 4 (some .int) 1 21 0 0 (some (.int Z.1)) Z.2 4 [(0, .ref κ.o), (1, .int x1), (2, .int x2)] [] S) (x1 : Int32) (x3 : Int32) (y0 : Int32) (S : MS) (h : r_readLetters_61 k4 x1 x3 y0 S = some Z) : Go l (EM κ) RX12 cX12_readLetters 4 (some .int) 1 21 0 0 (some (.int Z.1)) Z.2 61 [(0, .ref κ.o), (1, .int x1), (3, .int x3)] [.int y0] S := by
  unfold r_readLetters_61 at h
  refine Go.istore_n [(0, .ref κ.o), (1, .int x1), (2, .int y0), (3, .int x3)] dX12_readLetters_61 (by decide) rfl ?_
  refine Go.iload_n 2 dX12_readLetters_62 rfl ?_
  refine Go.if_eq 73 dX12_readLetters_63 (by decide) h (fun h => ?_) (fun h => ?_)
  · refine Go.sub [0, 1, 2] rfl ?_
    exact rs_readLetters_73 _ h4 _ _ _ h
  · refine Go.bipush 9 dX12_readLetters_66 (by decide) ?_
    refine Go.iload_n 1 dX12_readLetters_68 rfl ?_
    refine Go.imul dX12_readLetters_69 ?_
    refine Go.iload_n 3 dX12_readLetters_70 rfl ?_
    refine Go.iadd dX12_readLetters_71 ?_
    refine Go.istore_n [(0, .ref κ.o), (1, .int ((9 * x1) + x3)), (2, .int y0), (3, .int x3)] dX12_readLetters_72 (by decide) rfl ?_
    refine Go.sub [0, 1, 2] rfl ?_
    exact rs_readLetters_73 _ h4 _ _ _ h
set_option maxRecDepth 20000 in
theorem rs_readLetters_60 {l : Launch} {κ : KMt} {Z : Int32 × MS} (k4 : Int32 → Int32 → MS → Option (Int32 × MS)) (h4 : ∀ (x1 : Int32) (x2 : Int32) (S : MS), k4 x1 x2 S = some Z → Go l (EM κ) RX12 cX12_readLetters 4 (some .int) 1 21 0 0 (some (.int Z.1)) Z.2 4 [(0, .ref κ.o), (1, .int x1), (2, .int x2)] [] S) (x1 : Int32) (x3 : Int32) (S : MS) (h : r_readLetters_60 k4 x1 x3 S = some Z) : Go l (EM κ) RX12 cX12_readLetters 4 (some .int) 1 21 0 0 (some (.int Z.1)) Z.2 60 [(0, .ref κ.o), (1, .int x1), (3, .int x3)] [] S := by
  unfold r_readLetters_60 at h
  refine Go.iconst 0 dX12_readLetters_60 (by decide) ?_
  exact rs_readLetters_61 _ h4 _ _ _ _ h
set_option maxRecDepth 20000 in
theorem rs_readLetters_4 {l : Launch} {κ : KMt} {Z : Int32 × MS} (n : Nat) : ∀ (x1 : Int32) (x2 : Int32) (S : MS), r_readLetters_4 n x1 x2 S = some Z → Go l (EM κ) RX12 cX12_readLetters 4 (some .int) 1 21 0 0 (some (.int Z.1)) Z.2 4 [(0, .ref κ.o), (1, .int x1), (2, .int x2)] [] S := by
  induction n with
  | zero => intro x1 x2 S h; rw [r_readLetters_4] at h; cases h
  | succ n ih =>
    intro x1 x2 S h
    rw [r_readLetters_4] at h
    refine Go.aload_n 0 dX12_readLetters_4 rfl ?_
    refine Go.aload_n 0 dX12_readLetters_5 rfl ?_
    refine GM.geti 46 (by decide) rfl fl_from rfl dX12_readLetters_6 ?_
    refine GM.callvr (rest := []) [.int (S.2 46)] dX12_readLetters_9 ck_byteAt ci_byteAt (rt_byteAt _) rfl rfl (Nat.le_of_ble_eq_true rfl) (Nat.le_of_ble_eq_true rfl) (Nat.le_of_ble_eq_true rfl) h (fun v1 h => ?_)
    refine GM.callsr (rest := []) [.int v1] dX12_readLetters_12 ck_isLetter ci_isLetter (rt_isLetter _) rfl rfl (Nat.le_of_ble_eq_true rfl) (Nat.le_of_ble_eq_true rfl) (Nat.le_of_ble_eq_true rfl) h (fun v2 h => ?_)
    refine Go.if_eq 86 dX12_readLetters_15 (by decide) h (fun h => ?_) (fun h => ?_)
    · refine Go.iload_n 2 dX12_readLetters_86 rfl ?_
      refine Go.if_eq 98 dX12_readLetters_87 (by decide) h (fun h => ?_) (fun h => ?_)
      · refine Go.iconst (-1) dX12_readLetters_98 (by decide) ?_
        cases h
        exact Go.iret dX12_readLetters_99 rfl
      · refine Go.iload_n 1 dX12_readLetters_90 rfl ?_
        refine Go.if_le 98 dX12_readLetters_91 (by decide) h (fun h => ?_) (fun h => ?_)
        · refine Go.iconst (-1) dX12_readLetters_98 (by decide) ?_
          cases h
          exact Go.iret dX12_readLetters_99 rfl
        · refine Go.iload_n 1 dX12_readLetters_94 rfl ?_
          refine Go.goto 99 dX12_readLetters_95 (by decide) ?_
          cases h
          exact Go.iret dX12_readLetters_99 rfl
    · refine Go.aload_n 0 dX12_readLetters_18 rfl ?_
      refine Go.aload_n 0 dX12_readLetters_19 rfl ?_
      refine GM.geti 46 (by decide) rfl fl_from rfl dX12_readLetters_20 ?_
      refine GM.callvr (rest := []) [.int (S.2 46)] dX12_readLetters_23 ck_byteAt ci_byteAt (rt_byteAt _) rfl rfl (Nat.le_of_ble_eq_true rfl) (Nat.le_of_ble_eq_true rfl) (Nat.le_of_ble_eq_true rfl) h (fun v3 h => ?_)
      refine Go.bipush 97 dX12_readLetters_26 (by decide) ?_
      refine Go.isub dX12_readLetters_28 ?_
      refine Go.iconst 1 dX12_readLetters_29 (by decide) ?_
      refine Go.iadd dX12_readLetters_30 ?_
      refine Go.istore_n [(0, .ref κ.o), (1, .int x1), (2, .int x2), (3, .int ((v3 - 97) + 1))] dX12_readLetters_31 (by decide) rfl ?_
      refine Go.iload_n 2 dX12_readLetters_32 rfl ?_
      refine Go.if_eq 60 dX12_readLetters_33 (by decide) h (fun h => ?_) (fun h => ?_)
      · refine Go.sub [0, 1, 3] rfl ?_
        exact rs_readLetters_60 _ ih _ _ _ h
      · refine Go.iload_n 3 dX12_readLetters_36 rfl ?_
        refine Go.bipush 8 dX12_readLetters_37 (by decide) ?_
        refine Go.icmp_gt 60 dX12_readLetters_39 (by decide) h (fun h => ?_) (fun h => ?_)
        · refine Go.sub [0, 1, 3] rfl ?_
          exact rs_readLetters_60 _ ih _ _ _ h
        · refine Go.aload_n 0 dX12_readLetters_42 rfl ?_
          refine GM.geti 46 (by decide) rfl fl_from rfl dX12_readLetters_43 ?_
          refine Go.aload_n 0 dX12_readLetters_46 rfl ?_
          refine GM.geti 47 (by decide) rfl fl_place rfl dX12_readLetters_47 ?_
          refine Go.isub dX12_readLetters_50 ?_
          refine Go.bipush 6 dX12_readLetters_51 (by decide) ?_
          refine Go.icmp_ge 60 dX12_readLetters_53 (by decide) h (fun h => ?_) (fun h => ?_)
          · refine Go.sub [0, 1, 3] rfl ?_
            exact rs_readLetters_60 _ ih _ _ _ h
          · refine Go.iconst 1 dX12_readLetters_56 (by decide) ?_
            refine Go.goto 61 dX12_readLetters_57 (by decide) ?_
            refine Go.sub [0, 1, 3] rfl ?_
            exact rs_readLetters_61 _ ih _ _ _ _ h
set_option maxRecDepth 20000 in
theorem rs_readLetters {l : Launch} {κ : KMt} {S : MS} {Z : Int32 × MS}  (h : r_readLetters S  = some Z) : Go l (EM κ) RX12 cX12_readLetters 4 (some .int) 1 21 0 0 (some (.int Z.1)) Z.2 0 [(0, .ref κ.o)] [] S := by
  unfold r_readLetters at h
  refine Go.iconst 0 dX12_readLetters_0 (by decide) ?_
  refine Go.istore_n [(0, .ref κ.o), (1, .int 0)] dX12_readLetters_1 (by decide) rfl ?_
  refine Go.iconst 1 dX12_readLetters_2 (by decide) ?_
  refine Go.istore_n [(0, .ref κ.o), (1, .int 0), (2, .int 1)] dX12_readLetters_3 (by decide) rfl ?_
  exact rs_readLetters_4 _ _ _ _ h
set_option maxRecDepth 20000 in
theorem rt_readLetters {l : Launch} {κ : KMt} {S : MS}  : ∀ Z, r_readLetters S  = some Z → MtM l κ yX12_readLetters cX12_readLetters 4 (some .int) 1 21 [.ref κ.o] S (some (.int Z.1)) Z.2 := fun Z h => MtM.of (by decide +kernel) rfl (Nat.le_of_ble_eq_true rfl) ⟨rfl, trivial⟩ (rs_readLetters  h)
/-! isWordAt -/
def r_isWordAt_22 (S : MS)  : Nat → Int32 → Int32 → Option (Int32)
  | 0, _, _ => none
  | n + 1, x1, x2 => (rd S 27 x1).bind (fun v1 => if v1 ≤ x2 then zb 1 else (r_byteAt S ((S.2 47) + x2)).bind (fun v2 => (rd S 27 ((x1 + 1) + x2)).bind (fun v3 => if ((v2 - 97) + 1) = v3 then r_isWordAt_22 S n x1 (x2 + 1) else zb 0)))
def r_isWordAt (S : MS) (x1 : Int32) : Option (Int32) := (rd S 27 x1).bind (fun v4 => if ((S.2 46) - (S.2 47)) = v4 then r_isWordAt_22 S FU x1 0 else zb 0)
set_option maxRecDepth 20000 in
theorem rs_isWordAt_22 {l : Launch} {κ : KMt} {S : MS} {Z : Int32} (n : Nat) : ∀ (x1 : Int32) (x2 : Int32), r_isWordAt_22 S n x1 x2 = some Z → Go l (EM κ) RX12 cX12_isWordAt 3 (some .boolean) 1 21 0 0 (some (.int Z)) S 22 [(0, .ref κ.o), (1, .int x1), (2, .int x2)] [] S := by
  induction n with
  | zero => intro x1 x2 h; rw [r_isWordAt_22] at h; cases h
  | succ n ih =>
    intro x1 x2 h
    rw [r_isWordAt_22] at h
    refine Go.iload_n 2 dX12_isWordAt_22 rfl ?_
    refine Go.aload_n 0 dX12_isWordAt_23 rfl ?_
    refine GM.geta 48 27 (by decide) rfl fl_words rfl dX12_isWordAt_24 ?_
    refine Go.iload_n 1 dX12_isWordAt_27 rfl ?_
    refine GM.iald 27 (by decide) rfl dX12_isWordAt_28 h (fun v1 h => ?_)
    refine Go.icmp_ge 68 dX12_isWordAt_29 (by decide) h (fun h => ?_) (fun h => ?_)
    · refine Go.iconst 1 dX12_isWordAt_68 (by decide) ?_
      exact Go.zret dX12_isWordAt_69 rfl h
    · refine Go.aload_n 0 dX12_isWordAt_32 rfl ?_
      refine Go.aload_n 0 dX12_isWordAt_33 rfl ?_
      refine GM.geti 47 (by decide) rfl fl_place rfl dX12_isWordAt_34 ?_
      refine Go.iload_n 2 dX12_isWordAt_37 rfl ?_
      refine Go.iadd dX12_isWordAt_38 ?_
      refine GM.callvr (rest := []) [.int ((S.2 47) + x2)] dX12_isWordAt_39 ck_byteAt ci_byteAt (rt_byteAt _) rfl rfl (Nat.le_of_ble_eq_true rfl) (Nat.le_of_ble_eq_true rfl) (Nat.le_of_ble_eq_true rfl) h (fun v2 h => ?_)
      refine Go.bipush 97 dX12_isWordAt_42 (by decide) ?_
      refine Go.isub dX12_isWordAt_44 ?_
      refine Go.iconst 1 dX12_isWordAt_45 (by decide) ?_
      refine Go.iadd dX12_isWordAt_46 ?_
      refine Go.aload_n 0 dX12_isWordAt_47 rfl ?_
      refine GM.geta 48 27 (by decide) rfl fl_words rfl dX12_isWordAt_48 ?_
      refine Go.iload_n 1 dX12_isWordAt_51 rfl ?_
      refine Go.iconst 1 dX12_isWordAt_52 (by decide) ?_
      refine Go.iadd dX12_isWordAt_53 ?_
      refine Go.iload_n 2 dX12_isWordAt_54 rfl ?_
      refine Go.iadd dX12_isWordAt_55 ?_
      refine GM.iald 27 (by decide) rfl dX12_isWordAt_56 h (fun v3 h => ?_)
      refine Go.icmp_eq 62 dX12_isWordAt_57 (by decide) h (fun h => ?_) (fun h => ?_)
      · refine Go.iinc (w := 1) 2 [(0, .ref κ.o), (1, .int x1), (2, .int (x2 + 1))] dX12_isWordAt_62 rfl (by decide) (by decide) rfl ?_
        refine Go.goto 22 dX12_isWordAt_65 (by decide) ?_
        exact ih _ _ h
      · refine Go.iconst 0 dX12_isWordAt_60 (by decide) ?_
        exact Go.zret dX12_isWordAt_61 rfl h
set_option maxRecDepth 20000 in
theorem rs_isWordAt {l : Launch} {κ : KMt} {S : MS} {Z : Int32} (x1 : Int32) (h : r_isWordAt S x1 = some Z) : Go l (EM κ) RX12 cX12_isWordAt 3 (some .boolean) 1 21 0 0 (some (.int Z)) S 0 [(0, .ref κ.o), (1, .int x1)] [] S := by
  unfold r_isWordAt at h
  refine Go.aload_n 0 dX12_isWordAt_0 rfl ?_
  refine GM.geti 46 (by decide) rfl fl_from rfl dX12_isWordAt_1 ?_
  refine Go.aload_n 0 dX12_isWordAt_4 rfl ?_
  refine GM.geti 47 (by decide) rfl fl_place rfl dX12_isWordAt_5 ?_
  refine Go.isub dX12_isWordAt_8 ?_
  refine Go.aload_n 0 dX12_isWordAt_9 rfl ?_
  refine GM.geta 48 27 (by decide) rfl fl_words rfl dX12_isWordAt_10 ?_
  refine Go.iload_n 1 dX12_isWordAt_13 rfl ?_
  refine GM.iald 27 (by decide) rfl dX12_isWordAt_14 h (fun v4 h => ?_)
  refine Go.icmp_eq 20 dX12_isWordAt_15 (by decide) h (fun h => ?_) (fun h => ?_)
  · refine Go.iconst 0 dX12_isWordAt_20 (by decide) ?_
    refine Go.istore_n [(0, .ref κ.o), (1, .int x1), (2, .int 0)] dX12_isWordAt_21 (by decide) rfl ?_
    exact rs_isWordAt_22 _ _ _ h
  · refine Go.iconst 0 dX12_isWordAt_18 (by decide) ?_
    exact Go.zret dX12_isWordAt_19 rfl h
set_option maxRecDepth 20000 in
theorem rt_isWordAt {l : Launch} {κ : KMt} {S : MS} (x1 : Int32) : ∀ Z, r_isWordAt S x1 = some Z → MtM l κ yX12_isWordAt cX12_isWordAt 3 (some .boolean) 1 21 [.ref κ.o, .int x1] S (some (.int Z)) S := fun Z h => MtM.of (by decide +kernel) rfl (Nat.le_of_ble_eq_true rfl) ⟨rfl, rfl, trivial⟩ (rs_isWordAt x1 h)
/-! readKnown -/
def r_readKnown_31  : Nat → Int32 → Int32 → MS → Option (Int32 × MS)
  | 0, _, _, _ => none
  | n + 1, x1, x2, S => if 12 ≤ x2 then some ((-1), S) else (r_isWordAt S x1).bind (fun v1 => if v1 = 0 then (rd S 27 x1).bind (fun v2 => r_readKnown_31 n (x1 + (v2 + 1)) (x2 + 1) S) else some (x2, S))
def r_readKnown_0  : Nat → MS → Option (Int32 × MS)
  | 0, _ => none
  | n + 1, S => (r_byteAt S (S.2 46)).bind (fun v3 => (r_isLetter S v3).bind (fun v4 => if v4 = 0 then r_readKnown_31 FU 0 0 S else r_readKnown_0 n (pf S 46 ((S.2 46) + 1))))
def r_readKnown (S : MS)  : Option (Int32 × MS) := (r_byteAt S (S.2 46)).bind (fun v5 => (r_isLetter S v5).bind (fun v6 => if v6 = 0 then r_readKnown_31 FU 0 0 S else r_readKnown_0 FU (pf S 46 ((S.2 46) + 1))))
set_option maxRecDepth 20000 in
theorem rs_readKnown_31 {l : Launch} {κ : KMt} {Z : Int32 × MS} (n : Nat) : ∀ (x1 : Int32) (x2 : Int32) (S : MS), r_readKnown_31 n x1 x2 S = some Z → Go l (EM κ) RX12 cX12_readKnown 3 (some .int) 2 43 0 0 (some (.int Z.1)) Z.2 31 [(0, .ref κ.o), (1, .int x1), (2, .int x2)] [] S := by
  induction n with
  | zero => intro x1 x2 S h; rw [r_readKnown_31] at h; cases h
  | succ n ih =>
    intro x1 x2 S h
    rw [r_readKnown_31] at h
    refine Go.iload_n 2 dX12_readKnown_31 rfl ?_
    refine Go.bipush 12 dX12_readKnown_32 (by decide) ?_
    refine Go.icmp_ge 64 dX12_readKnown_34 (by decide) h (fun h => ?_) (fun h => ?_)
    · refine Go.iconst (-1) dX12_readKnown_64 (by decide) ?_
      cases h
      exact Go.iret dX12_readKnown_65 rfl
    · refine Go.aload_n 0 dX12_readKnown_37 rfl ?_
      refine Go.iload_n 1 dX12_readKnown_38 rfl ?_
      refine GM.callvr (rest := []) [.int x1] dX12_readKnown_39 ck_isWordAt ci_isWordAt (rt_isWordAt _) rfl rfl (Nat.le_of_ble_eq_true rfl) (Nat.le_of_ble_eq_true rfl) (Nat.le_of_ble_eq_true rfl) h (fun v1 h => ?_)
      refine Go.if_eq 47 dX12_readKnown_42 (by decide) h (fun h => ?_) (fun h => ?_)
      · refine Go.iload_n 1 dX12_readKnown_47 rfl ?_
        refine Go.aload_n 0 dX12_readKnown_48 rfl ?_
        refine GM.geta 48 27 (by decide) rfl fl_words rfl dX12_readKnown_49 ?_
        refine Go.iload_n 1 dX12_readKnown_52 rfl ?_
        refine GM.iald 27 (by decide) rfl dX12_readKnown_53 h (fun v2 h => ?_)
        refine Go.iconst 1 dX12_readKnown_54 (by decide) ?_
        refine Go.iadd dX12_readKnown_55 ?_
        refine Go.iadd dX12_readKnown_56 ?_
        refine Go.istore_n [(0, .ref κ.o), (1, .int (x1 + (v2 + 1))), (2, .int x2)] dX12_readKnown_57 (by decide) rfl ?_
        refine Go.iinc (w := 1) 2 [(0, .ref κ.o), (1, .int (x1 + (v2 + 1))), (2, .int (x2 + 1))] dX12_readKnown_58 rfl (by decide) (by decide) rfl ?_
        refine Go.goto 31 dX12_readKnown_61 (by decide) ?_
        exact ih _ _ _ h
      · refine Go.iload_n 2 dX12_readKnown_45 rfl ?_
        cases h
        exact Go.iret dX12_readKnown_46 rfl
set_option maxRecDepth 20000 in
theorem rs_readKnown_0 {l : Launch} {κ : KMt} {Z : Int32 × MS} (n : Nat) : ∀ (S : MS), r_readKnown_0 n S = some Z → Go l (EM κ) RX12 cX12_readKnown 3 (some .int) 2 43 0 0 (some (.int Z.1)) Z.2 0 [(0, .ref κ.o)] [] S := by
  induction n with
  | zero => intro S h; rw [r_readKnown_0] at h; cases h
  | succ n ih =>
    intro S h
    rw [r_readKnown_0] at h
    refine Go.aload_n 0 dX12_readKnown_0 rfl ?_
    refine Go.aload_n 0 dX12_readKnown_1 rfl ?_
    refine GM.geti 46 (by decide) rfl fl_from rfl dX12_readKnown_2 ?_
    refine GM.callvr (rest := []) [.int (S.2 46)] dX12_readKnown_5 ck_byteAt ci_byteAt (rt_byteAt _) rfl rfl (Nat.le_of_ble_eq_true rfl) (Nat.le_of_ble_eq_true rfl) (Nat.le_of_ble_eq_true rfl) h (fun v3 h => ?_)
    refine GM.callsr (rest := []) [.int v3] dX12_readKnown_8 ck_isLetter ci_isLetter (rt_isLetter _) rfl rfl (Nat.le_of_ble_eq_true rfl) (Nat.le_of_ble_eq_true rfl) (Nat.le_of_ble_eq_true rfl) h (fun v4 h => ?_)
    refine Go.if_eq 27 dX12_readKnown_11 (by decide) h (fun h => ?_) (fun h => ?_)
    · refine Go.iconst 0 dX12_readKnown_27 (by decide) ?_
      refine Go.istore_n [(0, .ref κ.o), (1, .int 0)] dX12_readKnown_28 (by decide) rfl ?_
      refine Go.iconst 0 dX12_readKnown_29 (by decide) ?_
      refine Go.istore_n [(0, .ref κ.o), (1, .int 0), (2, .int 0)] dX12_readKnown_30 (by decide) rfl ?_
      exact rs_readKnown_31 _ _ _ _ h
    · refine Go.aload_n 0 dX12_readKnown_14 rfl ?_
      refine Go.dup dX12_readKnown_15 rfl ?_
      refine GM.geti 46 (by decide) rfl fl_from rfl dX12_readKnown_16 ?_
      refine Go.iconst 1 dX12_readKnown_19 (by decide) ?_
      refine Go.iadd dX12_readKnown_20 ?_
      refine GM.puti 46 (by decide) rfl fl_from rfl rfl rfl rfl dX12_readKnown_21 ?_
      refine Go.goto 0 dX12_readKnown_24 (by decide) ?_
      exact ih _ h
set_option maxRecDepth 20000 in
theorem rs_readKnown {l : Launch} {κ : KMt} {S : MS} {Z : Int32 × MS}  (h : r_readKnown S  = some Z) : Go l (EM κ) RX12 cX12_readKnown 3 (some .int) 2 43 0 0 (some (.int Z.1)) Z.2 0 [(0, .ref κ.o)] [] S := by
  unfold r_readKnown at h
  refine Go.aload_n 0 dX12_readKnown_0 rfl ?_
  refine Go.aload_n 0 dX12_readKnown_1 rfl ?_
  refine GM.geti 46 (by decide) rfl fl_from rfl dX12_readKnown_2 ?_
  refine GM.callvr (rest := []) [.int (S.2 46)] dX12_readKnown_5 ck_byteAt ci_byteAt (rt_byteAt _) rfl rfl (Nat.le_of_ble_eq_true rfl) (Nat.le_of_ble_eq_true rfl) (Nat.le_of_ble_eq_true rfl) h (fun v5 h => ?_)
  refine GM.callsr (rest := []) [.int v5] dX12_readKnown_8 ck_isLetter ci_isLetter (rt_isLetter _) rfl rfl (Nat.le_of_ble_eq_true rfl) (Nat.le_of_ble_eq_true rfl) (Nat.le_of_ble_eq_true rfl) h (fun v6 h => ?_)
  refine Go.if_eq 27 dX12_readKnown_11 (by decide) h (fun h => ?_) (fun h => ?_)
  · refine Go.iconst 0 dX12_readKnown_27 (by decide) ?_
    refine Go.istore_n [(0, .ref κ.o), (1, .int 0)] dX12_readKnown_28 (by decide) rfl ?_
    refine Go.iconst 0 dX12_readKnown_29 (by decide) ?_
    refine Go.istore_n [(0, .ref κ.o), (1, .int 0), (2, .int 0)] dX12_readKnown_30 (by decide) rfl ?_
    exact rs_readKnown_31 _ _ _ _ h
  · refine Go.aload_n 0 dX12_readKnown_14 rfl ?_
    refine Go.dup dX12_readKnown_15 rfl ?_
    refine GM.geti 46 (by decide) rfl fl_from rfl dX12_readKnown_16 ?_
    refine Go.iconst 1 dX12_readKnown_19 (by decide) ?_
    refine Go.iadd dX12_readKnown_20 ?_
    refine GM.puti 46 (by decide) rfl fl_from rfl rfl rfl rfl dX12_readKnown_21 ?_
    refine Go.goto 0 dX12_readKnown_24 (by decide) ?_
    exact rs_readKnown_0 _ _ h
set_option maxRecDepth 20000 in
theorem rt_readKnown {l : Launch} {κ : KMt} {S : MS}  : ∀ Z, r_readKnown S  = some Z → MtM l κ yX12_readKnown cX12_readKnown 3 (some .int) 2 43 [.ref κ.o] S (some (.int Z.1)) Z.2 := fun Z h => MtM.of (by decide +kernel) rfl (Nat.le_of_ble_eq_true rfl) ⟨rfl, trivial⟩ (rs_readKnown  h)
/-! isWrong -/
def r_isWrong (S : MS)  : Option (Int32 × MS) := (zb 0).bind (fun w => some (w, (pf S 45 (S.2 47))))
set_option maxRecDepth 20000 in
theorem rs_isWrong {l : Launch} {κ : KMt} {S : MS} {Z : Int32 × MS}  (h : r_isWrong S  = some Z) : Go l (EM κ) RX12 cX12_isWrong 1 (some .boolean) 0 0 0 0 (some (.int Z.1)) Z.2 0 [(0, .ref κ.o)] [] S := by
  unfold r_isWrong at h
  refine Go.aload_n 0 dX12_isWrong_0 rfl ?_
  refine Go.aload_n 0 dX12_isWrong_1 rfl ?_
  refine GM.geti 47 (by decide) rfl fl_place rfl dX12_isWrong_2 ?_
  refine GM.puti 45 (by decide) rfl fl_fault rfl rfl rfl rfl dX12_isWrong_5 ?_
  refine Go.iconst 0 dX12_isWrong_8 (by decide) ?_
  obtain ⟨w, hw, h⟩ := Option.bind_eq_some_iff.mp h
  cases h
  exact Go.zret dX12_isWrong_9 rfl hw
set_option maxRecDepth 20000 in
theorem rt_isWrong {l : Launch} {κ : KMt} {S : MS}  : ∀ Z, r_isWrong S  = some Z → MtM l κ yX12_isWrong cX12_isWrong 1 (some .boolean) 0 0 [.ref κ.o] S (some (.int Z.1)) Z.2 := fun Z h => MtM.of (by decide +kernel) rfl (Nat.le_of_ble_eq_true rfl) ⟨rfl, trivial⟩ (rs_isWrong  h)
/-! readWord -/
def r_readWord_31  (S : MS) : Option (Int32 × MS) := (zb 1).bind (fun w => some (w, S))
def r_readWord (S : MS) (x1 : Int32) : Option (Int32 × MS) := (r_skip S ).bind (fun S1 => bd2 (r_readLetters S1 ) (fun v2 S3 => (wr S3 28 x1 v2).bind (fun S4 => (rd S4 28 x1).bind (fun v5 => if v5 = (-1) then bd2 (r_isWrong S4 ) (fun v6 S7 => if v6 = 0 then (zb 0).bind (fun w => some (w, S7)) else r_readWord_31 S7) else r_readWord_31 S4))))
set_option maxRecDepth 20000 in
theorem rs_readWord_31 {l : Launch} {κ : KMt} {Z : Int32 × MS} (S : MS) (h : r_readWord_31 S = some Z) : Go l (EM κ) RX12 cX12_readWord 2 (some .boolean) 2 44 0 0 (some (.int Z.1)) Z.2 31 [] [] S := by
  unfold r_readWord_31 at h
  refine Go.iconst 1 dX12_readWord_31 (by decide) ?_
  refine Go.goto 36 dX12_readWord_32 (by decide) ?_
  obtain ⟨w, hw, h⟩ := Option.bind_eq_some_iff.mp h
  cases h
  exact Go.zret dX12_readWord_36 rfl hw
set_option maxRecDepth 20000 in
theorem rs_readWord {l : Launch} {κ : KMt} {S : MS} {Z : Int32 × MS} (x1 : Int32) (h : r_readWord S x1 = some Z) : Go l (EM κ) RX12 cX12_readWord 2 (some .boolean) 2 44 0 0 (some (.int Z.1)) Z.2 0 [(0, .ref κ.o), (1, .int x1)] [] S := by
  unfold r_readWord at h
  refine Go.aload_n 0 dX12_readWord_0 rfl ?_
  refine GM.callvu (rest := []) [] dX12_readWord_1 ck_skip ci_skip (rt_skip ) rfl rfl (Nat.le_of_ble_eq_true rfl) (Nat.le_of_ble_eq_true rfl) (Nat.le_of_ble_eq_true rfl) h (fun S1 h => ?_)
  refine Go.aload_n 0 dX12_readWord_4 rfl ?_
  refine GM.geta 49 28 (by decide) rfl fl_read rfl dX12_readWord_5 ?_
  refine Go.iload_n 1 dX12_readWord_8 rfl ?_
  refine Go.aload_n 0 dX12_readWord_9 rfl ?_
  refine GM.callvw (rest := [.int x1, .ref (κ.o + 1 + 28)]) [] dX12_readWord_10 ck_readLetters ci_readLetters (rt_readLetters ) rfl rfl (Nat.le_of_ble_eq_true rfl) (Nat.le_of_ble_eq_true rfl) (Nat.le_of_ble_eq_true rfl) h (fun v2 S3 h => ?_)
  refine GM.iast 28 (by decide) rfl dX12_readWord_13 h (fun S4 h => ?_)
  refine Go.aload_n 0 dX12_readWord_14 rfl ?_
  refine GM.geta 49 28 (by decide) rfl fl_read rfl dX12_readWord_15 ?_
  refine Go.iload_n 1 dX12_readWord_18 rfl ?_
  refine GM.iald 28 (by decide) rfl dX12_readWord_19 h (fun v5 h => ?_)
  refine Go.iconst (-1) dX12_readWord_20 (by decide) ?_
  refine Go.icmp_ne 31 dX12_readWord_21 (by decide) h (fun h => ?_) (fun h => ?_)
  · refine Go.sub [] rfl ?_
    exact rs_readWord_31 _ h
  · refine Go.aload_n 0 dX12_readWord_24 rfl ?_
    refine GM.callvw (rest := []) [] dX12_readWord_25 ck_isWrong ci_isWrong (rt_isWrong ) rfl rfl (Nat.le_of_ble_eq_true rfl) (Nat.le_of_ble_eq_true rfl) (Nat.le_of_ble_eq_true rfl) h (fun v6 S7 h => ?_)
    refine Go.if_eq 35 dX12_readWord_28 (by decide) h (fun h => ?_) (fun h => ?_)
    · refine Go.iconst 0 dX12_readWord_35 (by decide) ?_
      obtain ⟨w, hw, h⟩ := Option.bind_eq_some_iff.mp h
      cases h
      exact Go.zret dX12_readWord_36 rfl hw
    · refine Go.sub [] rfl ?_
      exact rs_readWord_31 _ h
set_option maxRecDepth 20000 in
theorem rt_readWord {l : Launch} {κ : KMt} {S : MS} (x1 : Int32) : ∀ Z, r_readWord S x1 = some Z → MtM l κ yX12_readWord cX12_readWord 2 (some .boolean) 2 44 [.ref κ.o, .int x1] S (some (.int Z.1)) Z.2 := fun Z h => MtM.of (by decide +kernel) rfl (Nat.le_of_ble_eq_true rfl) ⟨rfl, rfl, trivial⟩ (rs_readWord x1 h)
/-! readNumber -/
def r_readNumber_94  (S : MS) : Option (Int32 × MS) := (zb 1).bind (fun w => some (w, S))
def r_readNumber_50 (k6 : Int32 → Int32 → MS → Option (Int32 × MS)) (x1 : Int32) (x2 : Int32) (S : MS) : Option (Int32 × MS) := k6 x1 x2 (pf S 46 ((S.2 46) + 1))
def r_readNumber_6  : Nat → Int32 → Int32 → MS → Option (Int32 × MS)
  | 0, _, _, _ => none
  | n + 1, x1, x2, S => (r_byteAt S (S.2 46)).bind (fun v1 => (r_isFigure S v1).bind (fun v2 => if v2 = 0 then (wr S 28 x1 x2).bind (fun S3 => (r_isIn S3 ((S3.2 46) - (S3.2 47)) 1 3).bind (fun v4 => if v4 = 0 then bd2 (r_isWrong S3 ) (fun v5 S6 => if v5 = 0 then (zb 0).bind (fun w => some (w, S6)) else r_readNumber_94 S6) else r_readNumber_94 S3)) else if 3 ≤ ((S.2 46) - (S.2 47)) then r_readNumber_50 (r_readNumber_6 n) x1 x2 S else (r_byteAt S (S.2 46)).bind (fun v7 => r_readNumber_50 (r_readNumber_6 n) x1 (((10 * x2) + v7) - 48) S)))
def r_readNumber (S : MS) (x1 : Int32) : Option (Int32 × MS) := (r_skip S ).bind (fun S8 => r_readNumber_6 FU x1 0 S8)
set_option maxRecDepth 20000 in
theorem rs_readNumber_94 {l : Launch} {κ : KMt} {Z : Int32 × MS} (S : MS) (h : r_readNumber_94 S = some Z) : Go l (EM κ) RX12 cX12_readNumber 3 (some .boolean) 2 41 0 0 (some (.int Z.1)) Z.2 94 [] [] S := by
  unfold r_readNumber_94 at h
  refine Go.iconst 1 dX12_readNumber_94 (by decide) ?_
  refine Go.goto 99 dX12_readNumber_95 (by decide) ?_
  obtain ⟨w, hw, h⟩ := Option.bind_eq_some_iff.mp h
  cases h
  exact Go.zret dX12_readNumber_99 rfl hw
set_option maxRecDepth 20000 in
theorem rs_readNumber_50 {l : Launch} {κ : KMt} {Z : Int32 × MS} (k6 : Int32 → Int32 → MS → Option (Int32 × MS)) (h6 : ∀ (x1 : Int32) (x2 : Int32) (S : MS), k6 x1 x2 S = some Z → Go l (EM κ) RX12 cX12_readNumber 3 (some .boolean) 2 41 0 0 (some (.int Z.1)) Z.2 6 [(0, .ref κ.o), (1, .int x1), (2, .int x2)] [] S) (x1 : Int32) (x2 : Int32) (S : MS) (h : r_readNumber_50 k6 x1 x2 S = some Z) : Go l (EM κ) RX12 cX12_readNumber 3 (some .boolean) 2 41 0 0 (some (.int Z.1)) Z.2 50 [(0, .ref κ.o), (1, .int x1), (2, .int x2)] [] S := by
  unfold r_readNumber_50 at h
  refine Go.aload_n 0 dX12_readNumber_50 rfl ?_
  refine Go.dup dX12_readNumber_51 rfl ?_
  refine GM.geti 46 (by decide) rfl fl_from rfl dX12_readNumber_52 ?_
  refine Go.iconst 1 dX12_readNumber_55 (by decide) ?_
  refine Go.iadd dX12_readNumber_56 ?_
  refine GM.puti 46 (by decide) rfl fl_from rfl rfl rfl rfl dX12_readNumber_57 ?_
  refine Go.goto 6 dX12_readNumber_60 (by decide) ?_
  exact h6 _ _ _ h
set_option maxRecDepth 20000 in
theorem rs_readNumber_6 {l : Launch} {κ : KMt} {Z : Int32 × MS} (n : Nat) : ∀ (x1 : Int32) (x2 : Int32) (S : MS), r_readNumber_6 n x1 x2 S = some Z → Go l (EM κ) RX12 cX12_readNumber 3 (some .boolean) 2 41 0 0 (some (.int Z.1)) Z.2 6 [(0, .ref κ.o), (1, .int x1), (2, .int x2)] [] S := by
  induction n with
  | zero => intro x1 x2 S h; rw [r_readNumber_6] at h; cases h
  | succ n ih =>
    intro x1 x2 S h
    rw [r_readNumber_6] at h
    refine Go.aload_n 0 dX12_readNumber_6 rfl ?_
    refine Go.aload_n 0 dX12_readNumber_7 rfl ?_
    refine GM.geti 46 (by decide) rfl fl_from rfl dX12_readNumber_8 ?_
    refine GM.callvr (rest := []) [.int (S.2 46)] dX12_readNumber_11 ck_byteAt ci_byteAt (rt_byteAt _) rfl rfl (Nat.le_of_ble_eq_true rfl) (Nat.le_of_ble_eq_true rfl) (Nat.le_of_ble_eq_true rfl) h (fun v1 h => ?_)
    refine GM.callsr (rest := []) [.int v1] dX12_readNumber_14 ck_isFigure ci_isFigure (rt_isFigure _) rfl rfl (Nat.le_of_ble_eq_true rfl) (Nat.le_of_ble_eq_true rfl) (Nat.le_of_ble_eq_true rfl) h (fun v2 h => ?_)
    refine Go.if_eq 63 dX12_readNumber_17 (by decide) h (fun h => ?_) (fun h => ?_)
    · refine Go.aload_n 0 dX12_readNumber_63 rfl ?_
      refine GM.geta 49 28 (by decide) rfl fl_read rfl dX12_readNumber_64 ?_
      refine Go.iload_n 1 dX12_readNumber_67 rfl ?_
      refine Go.iload_n 2 dX12_readNumber_68 rfl ?_
      refine GM.iast 28 (by decide) rfl dX12_readNumber_69 h (fun S3 h => ?_)
      refine Go.aload_n 0 dX12_readNumber_70 rfl ?_
      refine GM.geti 46 (by decide) rfl fl_from rfl dX12_readNumber_71 ?_
      refine Go.aload_n 0 dX12_readNumber_74 rfl ?_
      refine GM.geti 47 (by decide) rfl fl_place rfl dX12_readNumber_75 ?_
      refine Go.isub dX12_readNumber_78 ?_
      refine Go.iconst 1 dX12_readNumber_79 (by decide) ?_
      refine Go.iconst 3 dX12_readNumber_80 (by decide) ?_
      refine GM.callsr (rest := []) [.int ((S3.2 46) - (S3.2 47)), .int 1, .int 3] dX12_readNumber_81 ck_isIn ci_isIn (rt_isIn _ _ _) rfl rfl (Nat.le_of_ble_eq_true rfl) (Nat.le_of_ble_eq_true rfl) (Nat.le_of_ble_eq_true rfl) h (fun v4 h => ?_)
      refine Go.if_ne 94 dX12_readNumber_84 (by decide) h (fun h => ?_) (fun h => ?_)
      · refine Go.sub [] rfl ?_
        exact rs_readNumber_94 _ h
      · refine Go.aload_n 0 dX12_readNumber_87 rfl ?_
        refine GM.callvw (rest := []) [] dX12_readNumber_88 ck_isWrong ci_isWrong (rt_isWrong ) rfl rfl (Nat.le_of_ble_eq_true rfl) (Nat.le_of_ble_eq_true rfl) (Nat.le_of_ble_eq_true rfl) h (fun v5 S6 h => ?_)
        refine Go.if_eq 98 dX12_readNumber_91 (by decide) h (fun h => ?_) (fun h => ?_)
        · refine Go.iconst 0 dX12_readNumber_98 (by decide) ?_
          obtain ⟨w, hw, h⟩ := Option.bind_eq_some_iff.mp h
          cases h
          exact Go.zret dX12_readNumber_99 rfl hw
        · refine Go.sub [] rfl ?_
          exact rs_readNumber_94 _ h
    · refine Go.aload_n 0 dX12_readNumber_20 rfl ?_
      refine GM.geti 46 (by decide) rfl fl_from rfl dX12_readNumber_21 ?_
      refine Go.aload_n 0 dX12_readNumber_24 rfl ?_
      refine GM.geti 47 (by decide) rfl fl_place rfl dX12_readNumber_25 ?_
      refine Go.isub dX12_readNumber_28 ?_
      refine Go.iconst 3 dX12_readNumber_29 (by decide) ?_
      refine Go.icmp_ge 50 dX12_readNumber_30 (by decide) h (fun h => ?_) (fun h => ?_)
      · exact rs_readNumber_50 _ ih _ _ _ h
      · refine Go.bipush 10 dX12_readNumber_33 (by decide) ?_
        refine Go.iload_n 2 dX12_readNumber_35 rfl ?_
        refine Go.imul dX12_readNumber_36 ?_
        refine Go.aload_n 0 dX12_readNumber_37 rfl ?_
        refine Go.aload_n 0 dX12_readNumber_38 rfl ?_
        refine GM.geti 46 (by decide) rfl fl_from rfl dX12_readNumber_39 ?_
        refine GM.callvr (rest := [.int (10 * x2)]) [.int (S.2 46)] dX12_readNumber_42 ck_byteAt ci_byteAt (rt_byteAt _) rfl rfl (Nat.le_of_ble_eq_true rfl) (Nat.le_of_ble_eq_true rfl) (Nat.le_of_ble_eq_true rfl) h (fun v7 h => ?_)
        refine Go.iadd dX12_readNumber_45 ?_
        refine Go.bipush 48 dX12_readNumber_46 (by decide) ?_
        refine Go.isub dX12_readNumber_48 ?_
        refine Go.istore_n [(0, .ref κ.o), (1, .int x1), (2, .int (((10 * x2) + v7) - 48))] dX12_readNumber_49 (by decide) rfl ?_
        exact rs_readNumber_50 _ ih _ _ _ h
set_option maxRecDepth 20000 in
theorem rs_readNumber {l : Launch} {κ : KMt} {S : MS} {Z : Int32 × MS} (x1 : Int32) (h : r_readNumber S x1 = some Z) : Go l (EM κ) RX12 cX12_readNumber 3 (some .boolean) 2 41 0 0 (some (.int Z.1)) Z.2 0 [(0, .ref κ.o), (1, .int x1)] [] S := by
  unfold r_readNumber at h
  refine Go.aload_n 0 dX12_readNumber_0 rfl ?_
  refine GM.callvu (rest := []) [] dX12_readNumber_1 ck_skip ci_skip (rt_skip ) rfl rfl (Nat.le_of_ble_eq_true rfl) (Nat.le_of_ble_eq_true rfl) (Nat.le_of_ble_eq_true rfl) h (fun S8 h => ?_)
  refine Go.iconst 0 dX12_readNumber_4 (by decide) ?_
  refine Go.istore_n [(0, .ref κ.o), (1, .int x1), (2, .int 0)] dX12_readNumber_5 (by decide) rfl ?_
  exact rs_readNumber_6 _ _ _ _ h
set_option maxRecDepth 20000 in
theorem rt_readNumber {l : Launch} {κ : KMt} {S : MS} (x1 : Int32) : ∀ Z, r_readNumber S x1 = some Z → MtM l κ yX12_readNumber cX12_readNumber 3 (some .boolean) 2 41 [.ref κ.o, .int x1] S (some (.int Z.1)) Z.2 := fun Z h => MtM.of (by decide +kernel) rfl (Nat.le_of_ble_eq_true rfl) ⟨rfl, rfl, trivial⟩ (rs_readNumber x1 h)
/-! readName -/
def r_readName_32  (S : MS) : Option (Int32 × MS) := (zb 1).bind (fun w => some (w, S))
def r_readName (S : MS) (x1 : Int32) : Option (Int32 × MS) := (r_skip S ).bind (fun S1 => bd2 (r_readKnown S1 ) (fun v2 S3 => (wr S3 28 x1 (v2 - 8)).bind (fun S4 => if 8 ≤ v2 then r_readName_32 S4 else bd2 (r_isWrong S4 ) (fun v5 S6 => if v5 = 0 then (zb 0).bind (fun w => some (w, S6)) else r_readName_32 S6))))
set_option maxRecDepth 20000 in
theorem rs_readName_32 {l : Launch} {κ : KMt} {Z : Int32 × MS} (S : MS) (h : r_readName_32 S = some Z) : Go l (EM κ) RX12 cX12_readName 3 (some .boolean) 3 65 0 0 (some (.int Z.1)) Z.2 32 [] [] S := by
  unfold r_readName_32 at h
  refine Go.iconst 1 dX12_readName_32 (by decide) ?_
  refine Go.goto 37 dX12_readName_33 (by decide) ?_
  obtain ⟨w, hw, h⟩ := Option.bind_eq_some_iff.mp h
  cases h
  exact Go.zret dX12_readName_37 rfl hw
set_option maxRecDepth 20000 in
theorem rs_readName {l : Launch} {κ : KMt} {S : MS} {Z : Int32 × MS} (x1 : Int32) (h : r_readName S x1 = some Z) : Go l (EM κ) RX12 cX12_readName 3 (some .boolean) 3 65 0 0 (some (.int Z.1)) Z.2 0 [(0, .ref κ.o), (1, .int x1)] [] S := by
  unfold r_readName at h
  refine Go.aload_n 0 dX12_readName_0 rfl ?_
  refine GM.callvu (rest := []) [] dX12_readName_1 ck_skip ci_skip (rt_skip ) rfl rfl (Nat.le_of_ble_eq_true rfl) (Nat.le_of_ble_eq_true rfl) (Nat.le_of_ble_eq_true rfl) h (fun S1 h => ?_)
  refine Go.aload_n 0 dX12_readName_4 rfl ?_
  refine GM.callvw (rest := []) [] dX12_readName_5 ck_readKnown ci_readKnown (rt_readKnown ) rfl rfl (Nat.le_of_ble_eq_true rfl) (Nat.le_of_ble_eq_true rfl) (Nat.le_of_ble_eq_true rfl) h (fun v2 S3 h => ?_)
  refine Go.istore_n [(0, .ref κ.o), (1, .int x1), (2, .int v2)] dX12_readName_8 (by decide) rfl ?_
  refine Go.aload_n 0 dX12_readName_9 rfl ?_
  refine GM.geta 49 28 (by decide) rfl fl_read rfl dX12_readName_10 ?_
  refine Go.iload_n 1 dX12_readName_13 rfl ?_
  refine Go.iload_n 2 dX12_readName_14 rfl ?_
  refine Go.bipush 8 dX12_readName_15 (by decide) ?_
  refine Go.isub dX12_readName_17 ?_
  refine GM.iast 28 (by decide) rfl dX12_readName_18 h (fun S4 h => ?_)
  refine Go.iload_n 2 dX12_readName_19 rfl ?_
  refine Go.bipush 8 dX12_readName_20 (by decide) ?_
  refine Go.icmp_ge 32 dX12_readName_22 (by decide) h (fun h => ?_) (fun h => ?_)
  · refine Go.sub [] rfl ?_
    exact rs_readName_32 _ h
  · refine Go.aload_n 0 dX12_readName_25 rfl ?_
    refine GM.callvw (rest := []) [] dX12_readName_26 ck_isWrong ci_isWrong (rt_isWrong ) rfl rfl (Nat.le_of_ble_eq_true rfl) (Nat.le_of_ble_eq_true rfl) (Nat.le_of_ble_eq_true rfl) h (fun v5 S6 h => ?_)
    refine Go.if_eq 36 dX12_readName_29 (by decide) h (fun h => ?_) (fun h => ?_)
    · refine Go.iconst 0 dX12_readName_36 (by decide) ?_
      obtain ⟨w, hw, h⟩ := Option.bind_eq_some_iff.mp h
      cases h
      exact Go.zret dX12_readName_37 rfl hw
    · refine Go.sub [] rfl ?_
      exact rs_readName_32 _ h
set_option maxRecDepth 20000 in
theorem rt_readName {l : Launch} {κ : KMt} {S : MS} (x1 : Int32) : ∀ Z, r_readName S x1 = some Z → MtM l κ yX12_readName cX12_readName 3 (some .boolean) 3 65 [.ref κ.o, .int x1] S (some (.int Z.1)) Z.2 := fun Z h => MtM.of (by decide +kernel) rfl (Nat.le_of_ble_eq_true rfl) ⟨rfl, rfl, trivial⟩ (rs_readName x1 h)
/-! readCommand -/
def r_readCommand_80  (x1 : Int32) (S : MS) : Option (Int32 × MS) := bd2 (r_readWord S (x1 + 1)) (fun v1 S2 => if v1 = 0 then (zb 0).bind (fun w => some (w, S2)) else bd2 (r_readNumber S2 (x1 + 2)) (fun v3 S4 => if v3 = 0 then (zb 0).bind (fun w => some (w, S4)) else (zb 1).bind (fun w => some (w, S4))))
def r_readCommand_72  (x1 : Int32) (S : MS) : Option (Int32 × MS) := bd2 (r_readWord S (x1 + 1)) (fun v5 S6 => (zb v5).bind (fun w => some (w, S6)))
def r_readCommand (S : MS)  : Option (Int32 × MS) := (r_skip S ).bind (fun S7 => bd2 (r_readKnown S7 ) (fun v8 S9 => (wr S9 28 (3 * (S7.2 50)) v8).bind (fun S10 => (rd S10 28 (3 * (S7.2 50))).bind (fun v11 => if v11 = 0 then r_readCommand_72 (3 * (S7.2 50)) S10 else if v11 = 1 then r_readCommand_72 (3 * (S7.2 50)) S10 else if v11 = 2 then r_readCommand_80 (3 * (S7.2 50)) S10 else if v11 = 3 then r_readCommand_80 (3 * (S7.2 50)) S10 else if v11 = 4 then bd2 (r_readName S10 ((3 * (S7.2 50)) + 1)) (fun v12 S13 => (zb v12).bind (fun w => some (w, S13))) else if v11 = 5 then bd2 (r_readNumber S10 ((3 * (S7.2 50)) + 1)) (fun v14 S15 => (zb v14).bind (fun w => some (w, S15))) else if v11 = 6 then bd2 (r_readWord S10 ((3 * (S7.2 50)) + 1)) (fun v16 S17 => if v16 = 0 then (zb 0).bind (fun w => some (w, S17)) else bd2 (r_readWord S17 ((3 * (S7.2 50)) + 2)) (fun v18 S19 => if v18 = 0 then (zb 0).bind (fun w => some (w, S19)) else (zb 1).bind (fun w => some (w, S19)))) else if v11 = 7 then (zb 1).bind (fun w => some (w, S10)) else bd2 (r_isWrong S10 ) (fun v20 S21 => (zb v20).bind (fun w => some (w, S21)))))))
set_option maxRecDepth 20000 in
theorem rs_readCommand_80 {l : Launch} {κ : KMt} {Z : Int32 × MS} (x1 : Int32) (S : MS) (h : r_readCommand_80 x1 S = some Z) : Go l (EM κ) RX12 cX12_readCommand 2 (some .boolean) 4 87 0 0 (some (.int Z.1)) Z.2 80 [(0, .ref κ.o), (1, .int x1)] [] S := by
  unfold r_readCommand_80 at h
  refine Go.aload_n 0 dX12_readCommand_80 rfl ?_
  refine Go.iload_n 1 dX12_readCommand_81 rfl ?_
  refine Go.iconst 1 dX12_readCommand_82 (by decide) ?_
  refine Go.iadd dX12_readCommand_83 ?_
  refine GM.callvw (rest := []) [.int (x1 + 1)] dX12_readCommand_84 ck_readWord ci_readWord (rt_readWord _) rfl rfl (Nat.le_of_ble_eq_true rfl) (Nat.le_of_ble_eq_true rfl) (Nat.le_of_ble_eq_true rfl) h (fun v1 S2 h => ?_)
  refine Go.if_eq 104 dX12_readCommand_87 (by decide) h (fun h => ?_) (fun h => ?_)
  · refine Go.iconst 0 dX12_readCommand_104 (by decide) ?_
    obtain ⟨w, hw, h⟩ := Option.bind_eq_some_iff.mp h
    cases h
    exact Go.zret dX12_readCommand_105 rfl hw
  · refine Go.aload_n 0 dX12_readCommand_90 rfl ?_
    refine Go.iload_n 1 dX12_readCommand_91 rfl ?_
    refine Go.iconst 2 dX12_readCommand_92 (by decide) ?_
    refine Go.iadd dX12_readCommand_93 ?_
    refine GM.callvw (rest := []) [.int (x1 + 2)] dX12_readCommand_94 ck_readNumber ci_readNumber (rt_readNumber _) rfl rfl (Nat.le_of_ble_eq_true rfl) (Nat.le_of_ble_eq_true rfl) (Nat.le_of_ble_eq_true rfl) h (fun v3 S4 h => ?_)
    refine Go.if_eq 104 dX12_readCommand_97 (by decide) h (fun h => ?_) (fun h => ?_)
    · refine Go.iconst 0 dX12_readCommand_104 (by decide) ?_
      obtain ⟨w, hw, h⟩ := Option.bind_eq_some_iff.mp h
      cases h
      exact Go.zret dX12_readCommand_105 rfl hw
    · refine Go.iconst 1 dX12_readCommand_100 (by decide) ?_
      refine Go.goto 105 dX12_readCommand_101 (by decide) ?_
      obtain ⟨w, hw, h⟩ := Option.bind_eq_some_iff.mp h
      cases h
      exact Go.zret dX12_readCommand_105 rfl hw
set_option maxRecDepth 20000 in
theorem rs_readCommand_72 {l : Launch} {κ : KMt} {Z : Int32 × MS} (x1 : Int32) (S : MS) (h : r_readCommand_72 x1 S = some Z) : Go l (EM κ) RX12 cX12_readCommand 2 (some .boolean) 4 87 0 0 (some (.int Z.1)) Z.2 72 [(0, .ref κ.o), (1, .int x1)] [] S := by
  unfold r_readCommand_72 at h
  refine Go.aload_n 0 dX12_readCommand_72 rfl ?_
  refine Go.iload_n 1 dX12_readCommand_73 rfl ?_
  refine Go.iconst 1 dX12_readCommand_74 (by decide) ?_
  refine Go.iadd dX12_readCommand_75 ?_
  refine GM.callvw (rest := []) [.int (x1 + 1)] dX12_readCommand_76 ck_readWord ci_readWord (rt_readWord _) rfl rfl (Nat.le_of_ble_eq_true rfl) (Nat.le_of_ble_eq_true rfl) (Nat.le_of_ble_eq_true rfl) h (fun v5 S6 h => ?_)
  obtain ⟨w, hw, h⟩ := Option.bind_eq_some_iff.mp h
  cases h
  exact Go.zret dX12_readCommand_79 rfl hw
set_option maxRecDepth 20000 in
theorem rs_readCommand {l : Launch} {κ : KMt} {S : MS} {Z : Int32 × MS}  (h : r_readCommand S  = some Z) : Go l (EM κ) RX12 cX12_readCommand 2 (some .boolean) 4 87 0 0 (some (.int Z.1)) Z.2 0 [(0, .ref κ.o)] [] S := by
  unfold r_readCommand at h
  refine Go.aload_n 0 dX12_readCommand_0 rfl ?_
  refine GM.callvu (rest := []) [] dX12_readCommand_1 ck_skip ci_skip (rt_skip ) rfl rfl (Nat.le_of_ble_eq_true rfl) (Nat.le_of_ble_eq_true rfl) (Nat.le_of_ble_eq_true rfl) h (fun S7 h => ?_)
  refine Go.iconst 3 dX12_readCommand_4 (by decide) ?_
  refine Go.aload_n 0 dX12_readCommand_5 rfl ?_
  refine GM.geti 50 (by decide) rfl fl_reads rfl dX12_readCommand_6 ?_
  refine Go.imul dX12_readCommand_9 ?_
  refine Go.istore_n [(0, .ref κ.o), (1, .int (3 * (S7.2 50)))] dX12_readCommand_10 (by decide) rfl ?_
  refine Go.aload_n 0 dX12_readCommand_11 rfl ?_
  refine GM.geta 49 28 (by decide) rfl fl_read rfl dX12_readCommand_12 ?_
  refine Go.iload_n 1 dX12_readCommand_15 rfl ?_
  refine Go.aload_n 0 dX12_readCommand_16 rfl ?_
  refine GM.callvw (rest := [.int (3 * (S7.2 50)), .ref (κ.o + 1 + 28)]) [] dX12_readCommand_17 ck_readKnown ci_readKnown (rt_readKnown ) rfl rfl (Nat.le_of_ble_eq_true rfl) (Nat.le_of_ble_eq_true rfl) (Nat.le_of_ble_eq_true rfl) h (fun v8 S9 h => ?_)
  refine GM.iast 28 (by decide) rfl dX12_readCommand_20 h (fun S10 h => ?_)
  refine Go.aload_n 0 dX12_readCommand_21 rfl ?_
  refine GM.geta 49 28 (by decide) rfl fl_read rfl dX12_readCommand_22 ?_
  refine Go.iload_n 1 dX12_readCommand_25 rfl ?_
  refine GM.iald 28 (by decide) rfl dX12_readCommand_26 h (fun v11 h => ?_)
  by_cases cc0 : v11 = 0
  · rw [if_pos cc0] at h
    refine Go.tabIn 72 0 cc0 dX12_readCommand_27 (by decide) (by decide) rfl (by decide) ?_
    exact rs_readCommand_72 _ _ h
  rw [if_neg cc0] at h
  by_cases cc1 : v11 = 1
  · rw [if_pos cc1] at h
    refine Go.tabIn 72 1 cc1 dX12_readCommand_27 (by decide) (by decide) rfl (by decide) ?_
    exact rs_readCommand_72 _ _ h
  rw [if_neg cc1] at h
  by_cases cc2 : v11 = 2
  · rw [if_pos cc2] at h
    refine Go.tabIn 80 2 cc2 dX12_readCommand_27 (by decide) (by decide) rfl (by decide) ?_
    exact rs_readCommand_80 _ _ h
  rw [if_neg cc2] at h
  by_cases cc3 : v11 = 3
  · rw [if_pos cc3] at h
    refine Go.tabIn 80 3 cc3 dX12_readCommand_27 (by decide) (by decide) rfl (by decide) ?_
    exact rs_readCommand_80 _ _ h
  rw [if_neg cc3] at h
  by_cases cc4 : v11 = 4
  · rw [if_pos cc4] at h
    refine Go.tabIn 106 4 cc4 dX12_readCommand_27 (by decide) (by decide) rfl (by decide) ?_
    refine Go.aload_n 0 dX12_readCommand_106 rfl ?_
    refine Go.iload_n 1 dX12_readCommand_107 rfl ?_
    refine Go.iconst 1 dX12_readCommand_108 (by decide) ?_
    refine Go.iadd dX12_readCommand_109 ?_
    refine GM.callvw (rest := []) [.int ((3 * (S7.2 50)) + 1)] dX12_readCommand_110 ck_readName ci_readName (rt_readName _) rfl rfl (Nat.le_of_ble_eq_true rfl) (Nat.le_of_ble_eq_true rfl) (Nat.le_of_ble_eq_true rfl) h (fun v12 S13 h => ?_)
    obtain ⟨w, hw, h⟩ := Option.bind_eq_some_iff.mp h
    cases h
    exact Go.zret dX12_readCommand_113 rfl hw
  rw [if_neg cc4] at h
  by_cases cc5 : v11 = 5
  · rw [if_pos cc5] at h
    refine Go.tabIn 114 5 cc5 dX12_readCommand_27 (by decide) (by decide) rfl (by decide) ?_
    refine Go.aload_n 0 dX12_readCommand_114 rfl ?_
    refine Go.iload_n 1 dX12_readCommand_115 rfl ?_
    refine Go.iconst 1 dX12_readCommand_116 (by decide) ?_
    refine Go.iadd dX12_readCommand_117 ?_
    refine GM.callvw (rest := []) [.int ((3 * (S7.2 50)) + 1)] dX12_readCommand_118 ck_readNumber ci_readNumber (rt_readNumber _) rfl rfl (Nat.le_of_ble_eq_true rfl) (Nat.le_of_ble_eq_true rfl) (Nat.le_of_ble_eq_true rfl) h (fun v14 S15 h => ?_)
    obtain ⟨w, hw, h⟩ := Option.bind_eq_some_iff.mp h
    cases h
    exact Go.zret dX12_readCommand_121 rfl hw
  rw [if_neg cc5] at h
  by_cases cc6 : v11 = 6
  · rw [if_pos cc6] at h
    refine Go.tabIn 122 6 cc6 dX12_readCommand_27 (by decide) (by decide) rfl (by decide) ?_
    refine Go.aload_n 0 dX12_readCommand_122 rfl ?_
    refine Go.iload_n 1 dX12_readCommand_123 rfl ?_
    refine Go.iconst 1 dX12_readCommand_124 (by decide) ?_
    refine Go.iadd dX12_readCommand_125 ?_
    refine GM.callvw (rest := []) [.int ((3 * (S7.2 50)) + 1)] dX12_readCommand_126 ck_readWord ci_readWord (rt_readWord _) rfl rfl (Nat.le_of_ble_eq_true rfl) (Nat.le_of_ble_eq_true rfl) (Nat.le_of_ble_eq_true rfl) h (fun v16 S17 h => ?_)
    refine Go.if_eq 146 dX12_readCommand_129 (by decide) h (fun h => ?_) (fun h => ?_)
    · refine Go.iconst 0 dX12_readCommand_146 (by decide) ?_
      obtain ⟨w, hw, h⟩ := Option.bind_eq_some_iff.mp h
      cases h
      exact Go.zret dX12_readCommand_147 rfl hw
    · refine Go.aload_n 0 dX12_readCommand_132 rfl ?_
      refine Go.iload_n 1 dX12_readCommand_133 rfl ?_
      refine Go.iconst 2 dX12_readCommand_134 (by decide) ?_
      refine Go.iadd dX12_readCommand_135 ?_
      refine GM.callvw (rest := []) [.int ((3 * (S7.2 50)) + 2)] dX12_readCommand_136 ck_readWord ci_readWord (rt_readWord _) rfl rfl (Nat.le_of_ble_eq_true rfl) (Nat.le_of_ble_eq_true rfl) (Nat.le_of_ble_eq_true rfl) h (fun v18 S19 h => ?_)
      refine Go.if_eq 146 dX12_readCommand_139 (by decide) h (fun h => ?_) (fun h => ?_)
      · refine Go.iconst 0 dX12_readCommand_146 (by decide) ?_
        obtain ⟨w, hw, h⟩ := Option.bind_eq_some_iff.mp h
        cases h
        exact Go.zret dX12_readCommand_147 rfl hw
      · refine Go.iconst 1 dX12_readCommand_142 (by decide) ?_
        refine Go.goto 147 dX12_readCommand_143 (by decide) ?_
        obtain ⟨w, hw, h⟩ := Option.bind_eq_some_iff.mp h
        cases h
        exact Go.zret dX12_readCommand_147 rfl hw
  rw [if_neg cc6] at h
  by_cases cc7 : v11 = 7
  · rw [if_pos cc7] at h
    refine Go.tabIn 148 7 cc7 dX12_readCommand_27 (by decide) (by decide) rfl (by decide) ?_
    refine Go.iconst 1 dX12_readCommand_148 (by decide) ?_
    obtain ⟨w, hw, h⟩ := Option.bind_eq_some_iff.mp h
    cases h
    exact Go.zret dX12_readCommand_149 rfl hw
  rw [if_neg cc7] at h
  refine Go.tabOut 150 dX12_readCommand_27 (sw_out (0) 8 (by decide) (fun k hk => match k, hk with | 0, _ => cc0 | 1, _ => cc1 | 2, _ => cc2 | 3, _ => cc3 | 4, _ => cc4 | 5, _ => cc5 | 6, _ => cc6 | 7, _ => cc7 | (k + 8), hk => absurd hk (by omega)) _ rfl) (by decide) ?_
  refine Go.aload_n 0 dX12_readCommand_150 rfl ?_
  refine GM.callvw (rest := []) [] dX12_readCommand_151 ck_isWrong ci_isWrong (rt_isWrong ) rfl rfl (Nat.le_of_ble_eq_true rfl) (Nat.le_of_ble_eq_true rfl) (Nat.le_of_ble_eq_true rfl) h (fun v20 S21 h => ?_)
  obtain ⟨w, hw, h⟩ := Option.bind_eq_some_iff.mp h
  cases h
  exact Go.zret dX12_readCommand_154 rfl hw
set_option maxRecDepth 20000 in
theorem rt_readCommand {l : Launch} {κ : KMt} {S : MS}  : ∀ Z, r_readCommand S  = some Z → MtM l κ yX12_readCommand cX12_readCommand 2 (some .boolean) 4 87 [.ref κ.o] S (some (.int Z.1)) Z.2 := fun Z h => MtM.of (by decide +kernel) rfl (Nat.le_of_ble_eq_true rfl) ⟨rfl, trivial⟩ (rs_readCommand  h)
/-! readAll -/
def r_readAll_99  (S : MS) : Option (Int32 × MS) := (zb 1).bind (fun w => some (w, S))
def r_readAll_62 (k17 : Int32 → MS → Option (Int32 × MS)) (y0 : Int32) (S : MS) : Option (Int32 × MS) := if y0 = 0 then k17 y0 S else k17 y0 (pf S 46 ((S.2 46) + 1))
def r_readAll_17  : Nat → Int32 → MS → Option (Int32 × MS)
  | 0, _, _ => none
  | n + 1, x1, S => if x1 = 0 then (r_byteAt S (S.2 46)).bind (fun v1 => if v1 = (-1) then r_readAll_99 S else bd2 (r_isWrong S ) (fun v2 S3 => if v2 = 0 then (zb 0).bind (fun w => some (w, S3)) else r_readAll_99 S3)) else bd2 (r_readCommand S ) (fun v4 S5 => if v4 = 0 then (zb 0).bind (fun w => some (w, S5)) else (r_skip (pf S5 50 ((S5.2 50) + 1)) ).bind (fun S6 => (r_byteAt S6 (S6.2 46)).bind (fun v7 => if v7 = 59 then r_readAll_62 (r_readAll_17 n) 1 S6 else r_readAll_62 (r_readAll_17 n) 0 S6)))
def r_readAll (S : MS)  : Option (Int32 × MS) := r_readAll_17 FU 1 (pf (pf (pf S 45 (-1)) 50 0) 46 0)
set_option maxRecDepth 20000 in
theorem rs_readAll_99 {l : Launch} {κ : KMt} {Z : Int32 × MS} (S : MS) (h : r_readAll_99 S = some Z) : Go l (EM κ) RX12 cX12_readAll 2 (some .boolean) 5 108 0 0 (some (.int Z.1)) Z.2 99 [] [] S := by
  unfold r_readAll_99 at h
  refine Go.iconst 1 dX12_readAll_99 (by decide) ?_
  refine Go.goto 104 dX12_readAll_100 (by decide) ?_
  obtain ⟨w, hw, h⟩ := Option.bind_eq_some_iff.mp h
  cases h
  exact Go.zret dX12_readAll_104 rfl hw
set_option maxRecDepth 20000 in
theorem rs_readAll_62 {l : Launch} {κ : KMt} {Z : Int32 × MS} (k17 : Int32 → MS → Option (Int32 × MS)) (h17 : ∀ (x1 : Int32) (S : MS), k17 x1 S = some Z → Go l (EM κ) RX12 cX12_readAll 2 (some .boolean) 5 108 0 0 (some (.int Z.1)) Z.2 17 [(0, .ref κ.o), (1, .int x1)] [] S) (y0 : Int32) (S : MS) (h : r_readAll_62 k17 y0 S = some Z) : Go l (EM κ) RX12 cX12_readAll 2 (some .boolean) 5 108 0 0 (some (.int Z.1)) Z.2 62 [(0, .ref κ.o)] [.int y0] S := by
  unfold r_readAll_62 at h
  refine Go.istore_n [(0, .ref κ.o), (1, .int y0)] dX12_readAll_62 (by decide) rfl ?_
  refine Go.iload_n 1 dX12_readAll_63 rfl ?_
  refine Go.if_eq 17 dX12_readAll_64 (by decide) h (fun h => ?_) (fun h => ?_)
  · exact h17 _ _ h
  · refine Go.aload_n 0 dX12_readAll_67 rfl ?_
    refine Go.dup dX12_readAll_68 rfl ?_
    refine GM.geti 46 (by decide) rfl fl_from rfl dX12_readAll_69 ?_
    refine Go.iconst 1 dX12_readAll_72 (by decide) ?_
    refine Go.iadd dX12_readAll_73 ?_
    refine GM.puti 46 (by decide) rfl fl_from rfl rfl rfl rfl dX12_readAll_74 ?_
    refine Go.goto 17 dX12_readAll_77 (by decide) ?_
    exact h17 _ _ h
set_option maxRecDepth 20000 in
theorem rs_readAll_17 {l : Launch} {κ : KMt} {Z : Int32 × MS} (n : Nat) : ∀ (x1 : Int32) (S : MS), r_readAll_17 n x1 S = some Z → Go l (EM κ) RX12 cX12_readAll 2 (some .boolean) 5 108 0 0 (some (.int Z.1)) Z.2 17 [(0, .ref κ.o), (1, .int x1)] [] S := by
  induction n with
  | zero => intro x1 S h; rw [r_readAll_17] at h; cases h
  | succ n ih =>
    intro x1 S h
    rw [r_readAll_17] at h
    refine Go.iload_n 1 dX12_readAll_17 rfl ?_
    refine Go.if_eq 80 dX12_readAll_18 (by decide) h (fun h => ?_) (fun h => ?_)
    · refine Go.aload_n 0 dX12_readAll_80 rfl ?_
      refine Go.aload_n 0 dX12_readAll_81 rfl ?_
      refine GM.geti 46 (by decide) rfl fl_from rfl dX12_readAll_82 ?_
      refine GM.callvr (rest := []) [.int (S.2 46)] dX12_readAll_85 ck_byteAt ci_byteAt (rt_byteAt _) rfl rfl (Nat.le_of_ble_eq_true rfl) (Nat.le_of_ble_eq_true rfl) (Nat.le_of_ble_eq_true rfl) h (fun v1 h => ?_)
      refine Go.iconst (-1) dX12_readAll_88 (by decide) ?_
      refine Go.icmp_eq 99 dX12_readAll_89 (by decide) h (fun h => ?_) (fun h => ?_)
      · refine Go.sub [] rfl ?_
        exact rs_readAll_99 _ h
      · refine Go.aload_n 0 dX12_readAll_92 rfl ?_
        refine GM.callvw (rest := []) [] dX12_readAll_93 ck_isWrong ci_isWrong (rt_isWrong ) rfl rfl (Nat.le_of_ble_eq_true rfl) (Nat.le_of_ble_eq_true rfl) (Nat.le_of_ble_eq_true rfl) h (fun v2 S3 h => ?_)
        refine Go.if_eq 103 dX12_readAll_96 (by decide) h (fun h => ?_) (fun h => ?_)
        · refine Go.iconst 0 dX12_readAll_103 (by decide) ?_
          obtain ⟨w, hw, h⟩ := Option.bind_eq_some_iff.mp h
          cases h
          exact Go.zret dX12_readAll_104 rfl hw
        · refine Go.sub [] rfl ?_
          exact rs_readAll_99 _ h
    · refine Go.aload_n 0 dX12_readAll_21 rfl ?_
      refine GM.callvw (rest := []) [] dX12_readAll_22 ck_readCommand ci_readCommand (rt_readCommand ) rfl rfl (Nat.le_of_ble_eq_true rfl) (Nat.le_of_ble_eq_true rfl) (Nat.le_of_ble_eq_true rfl) h (fun v4 S5 h => ?_)
      refine Go.if_ne 30 dX12_readAll_25 (by decide) h (fun h => ?_) (fun h => ?_)
      · refine Go.aload_n 0 dX12_readAll_30 rfl ?_
        refine Go.dup dX12_readAll_31 rfl ?_
        refine GM.geti 50 (by decide) rfl fl_reads rfl dX12_readAll_32 ?_
        refine Go.iconst 1 dX12_readAll_35 (by decide) ?_
        refine Go.iadd dX12_readAll_36 ?_
        refine GM.puti 50 (by decide) rfl fl_reads rfl rfl rfl rfl dX12_readAll_37 ?_
        refine Go.aload_n 0 dX12_readAll_40 rfl ?_
        refine GM.callvu (rest := []) [] dX12_readAll_41 ck_skip ci_skip (rt_skip ) rfl rfl (Nat.le_of_ble_eq_true rfl) (Nat.le_of_ble_eq_true rfl) (Nat.le_of_ble_eq_true rfl) h (fun S6 h => ?_)
        refine Go.aload_n 0 dX12_readAll_44 rfl ?_
        refine Go.aload_n 0 dX12_readAll_45 rfl ?_
        refine GM.geti 46 (by decide) rfl fl_from rfl dX12_readAll_46 ?_
        refine GM.callvr (rest := []) [.int (S6.2 46)] dX12_readAll_49 ck_byteAt ci_byteAt (rt_byteAt _) rfl rfl (Nat.le_of_ble_eq_true rfl) (Nat.le_of_ble_eq_true rfl) (Nat.le_of_ble_eq_true rfl) h (fun v7 h => ?_)
        refine Go.bipush 59 dX12_readAll_52 (by decide) ?_
        refine Go.icmp_ne 61 dX12_readAll_54 (by decide) h (fun h => ?_) (fun h => ?_)
        · refine Go.iconst 0 dX12_readAll_61 (by decide) ?_
          refine Go.sub [0] rfl ?_
          exact rs_readAll_62 _ ih _ _ h
        · refine Go.iconst 1 dX12_readAll_57 (by decide) ?_
          refine Go.goto 62 dX12_readAll_58 (by decide) ?_
          refine Go.sub [0] rfl ?_
          exact rs_readAll_62 _ ih _ _ h
      · refine Go.iconst 0 dX12_readAll_28 (by decide) ?_
        obtain ⟨w, hw, h⟩ := Option.bind_eq_some_iff.mp h
        cases h
        exact Go.zret dX12_readAll_29 rfl hw
set_option maxRecDepth 20000 in
theorem rs_readAll {l : Launch} {κ : KMt} {S : MS} {Z : Int32 × MS}  (h : r_readAll S  = some Z) : Go l (EM κ) RX12 cX12_readAll 2 (some .boolean) 5 108 0 0 (some (.int Z.1)) Z.2 0 [(0, .ref κ.o)] [] S := by
  unfold r_readAll at h
  refine Go.aload_n 0 dX12_readAll_0 rfl ?_
  refine Go.iconst (-1) dX12_readAll_1 (by decide) ?_
  refine GM.puti 45 (by decide) rfl fl_fault rfl rfl rfl rfl dX12_readAll_2 ?_
  refine Go.aload_n 0 dX12_readAll_5 rfl ?_
  refine Go.iconst 0 dX12_readAll_6 (by decide) ?_
  refine GM.puti 50 (by decide) rfl fl_reads rfl rfl rfl rfl dX12_readAll_7 ?_
  refine Go.aload_n 0 dX12_readAll_10 rfl ?_
  refine Go.iconst 0 dX12_readAll_11 (by decide) ?_
  refine GM.puti 46 (by decide) rfl fl_from rfl rfl rfl rfl dX12_readAll_12 ?_
  refine Go.iconst 1 dX12_readAll_15 (by decide) ?_
  refine Go.istore_n [(0, .ref κ.o), (1, .int 1)] dX12_readAll_16 (by decide) rfl ?_
  exact rs_readAll_17 _ _ _ h
set_option maxRecDepth 20000 in
theorem rt_readAll {l : Launch} {κ : KMt} {S : MS}  : ∀ Z, r_readAll S  = some Z → MtM l κ yX12_readAll cX12_readAll 2 (some .boolean) 5 108 [.ref κ.o] S (some (.int Z.1)) Z.2 := fun Z h => MtM.of (by decide +kernel) rfl (Nat.le_of_ble_eq_true rfl) ⟨rfl, trivial⟩ (rs_readAll  h)
