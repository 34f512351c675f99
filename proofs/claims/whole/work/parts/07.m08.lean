/-! say -/
def r_say (S : MS) (x1 : Int32) : Option (MS) := if (S.2 52) = 400 then some S else (wr S 29 (S.2 52) x1).bind (fun S1 => some (pf S1 52 ((S1.2 52) + 1)))
set_option maxRecDepth 20000 in
theorem rs_say {l : Launch} {κ : KMt} {S : MS} {Z : MS} (x1 : Int32) (h : r_say S x1 = some Z) : Go l (EM κ) RX12 cX12_say 2 none 0 0 0 0 none Z 0 [(0, .ref κ.o), (1, .int x1)] [] S := by
  unfold r_say at h
  refine Go.aload_n 0 dX12_say_0 rfl ?_
  refine GM.geti 52 (by decide) rfl fl_replied rfl dX12_say_1 ?_
  refine Go.sipush 400 dX12_say_4 (by decide) ?_
  refine Go.icmp_ne 11 dX12_say_7 (by decide) h (fun h => ?_) (fun h => ?_)
  · refine Go.aload_n 0 dX12_say_11 rfl ?_
    refine GM.geta 51 29 (by decide) rfl fl_replies rfl dX12_say_12 ?_
    refine Go.aload_n 0 dX12_say_15 rfl ?_
    refine GM.geti 52 (by decide) rfl fl_replied rfl dX12_say_16 ?_
    refine Go.iload_n 1 dX12_say_19 rfl ?_
    refine GM.iast 29 (by decide) rfl dX12_say_20 h (fun S1 h => ?_)
    refine Go.aload_n 0 dX12_say_21 rfl ?_
    refine Go.dup dX12_say_22 rfl ?_
    refine GM.geti 52 (by decide) rfl fl_replied rfl dX12_say_23 ?_
    refine Go.iconst 1 dX12_say_26 (by decide) ?_
    refine Go.iadd dX12_say_27 ?_
    refine GM.puti 52 (by decide) rfl fl_replied rfl rfl rfl rfl dX12_say_28 ?_
    cases h
    exact Go.vret dX12_say_31 rfl
  · cases h
    exact Go.vret dX12_say_10 rfl
set_option maxRecDepth 20000 in
theorem rt_say {l : Launch} {κ : KMt} {S : MS} (x1 : Int32) : ∀ Z, r_say S x1 = some Z → MtM l κ yX12_say cX12_say 2 none 0 0 [.ref κ.o, .int x1] S none Z := fun Z h => MtM.of (by decide +kernel) rfl (Nat.le_of_ble_eq_true rfl) ⟨rfl, rfl, trivial⟩ (rs_say x1 h)
/-! sayNumber -/
def r_sayNumber_37  (x1 : Int32) (S : MS) : Option (MS) := (r_say S (48 + (x1 - x1 / 10 * 10))).bind (fun S1 => some S1)
def r_sayNumber_17  (x1 : Int32) (S : MS) : Option (MS) := if x1 ≤ 9 then r_sayNumber_37 x1 S else (r_say S (48 + ((x1 / 10) - (x1 / 10) / 10 * 10))).bind (fun S2 => r_sayNumber_37 x1 S2)
def r_sayNumber (S : MS) (x1 : Int32) : Option (MS) := if x1 ≤ 99 then r_sayNumber_17 x1 S else (r_say S (48 + (x1 / 100))).bind (fun S3 => r_sayNumber_17 x1 S3)
set_option maxRecDepth 20000 in
theorem rs_sayNumber_37 {l : Launch} {κ : KMt} {Z : MS} (x1 : Int32) (S : MS) (h : r_sayNumber_37 x1 S = some Z) : Go l (EM κ) RX12 cX12_sayNumber 2 none 1 21 0 0 none Z 37 [(0, .ref κ.o), (1, .int x1)] [] S := by
  unfold r_sayNumber_37 at h
  refine Go.aload_n 0 dX12_sayNumber_37 rfl ?_
  refine Go.bipush 48 dX12_sayNumber_38 (by decide) ?_
  refine Go.iload_n 1 dX12_sayNumber_40 rfl ?_
  refine Go.bipush 10 dX12_sayNumber_41 (by decide) ?_
  refine Go.irem dX12_sayNumber_43 (by decide) ?_
  refine Go.iadd dX12_sayNumber_44 ?_
  refine GM.callvu (rest := []) [.int (48 + (x1 - x1 / 10 * 10))] dX12_sayNumber_45 ck_say ci_say (rt_say _) rfl rfl (Nat.le_of_ble_eq_true rfl) (Nat.le_of_ble_eq_true rfl) (Nat.le_of_ble_eq_true rfl) h (fun S1 h => ?_)
  cases h
  exact Go.vret dX12_sayNumber_48 rfl
set_option maxRecDepth 20000 in
theorem rs_sayNumber_17 {l : Launch} {κ : KMt} {Z : MS} (x1 : Int32) (S : MS) (h : r_sayNumber_17 x1 S = some Z) : Go l (EM κ) RX12 cX12_sayNumber 2 none 1 21 0 0 none Z 17 [(0, .ref κ.o), (1, .int x1)] [] S := by
  unfold r_sayNumber_17 at h
  refine Go.iload_n 1 dX12_sayNumber_17 rfl ?_
  refine Go.bipush 9 dX12_sayNumber_18 (by decide) ?_
  refine Go.icmp_le 37 dX12_sayNumber_20 (by decide) h (fun h => ?_) (fun h => ?_)
  · exact rs_sayNumber_37 _ _ h
  · refine Go.aload_n 0 dX12_sayNumber_23 rfl ?_
    refine Go.bipush 48 dX12_sayNumber_24 (by decide) ?_
    refine Go.iload_n 1 dX12_sayNumber_26 rfl ?_
    refine Go.bipush 10 dX12_sayNumber_27 (by decide) ?_
    refine Go.idiv dX12_sayNumber_29 (by decide) ?_
    refine Go.bipush 10 dX12_sayNumber_30 (by decide) ?_
    refine Go.irem dX12_sayNumber_32 (by decide) ?_
    refine Go.iadd dX12_sayNumber_33 ?_
    refine GM.callvu (rest := []) [.int (48 + ((x1 / 10) - (x1 / 10) / 10 * 10))] dX12_sayNumber_34 ck_say ci_say (rt_say _) rfl rfl (Nat.le_of_ble_eq_true rfl) (Nat.le_of_ble_eq_true rfl) (Nat.le_of_ble_eq_true rfl) h (fun S2 h => ?_)
    exact rs_sayNumber_37 _ _ h
set_option maxRecDepth 20000 in
theorem rs_sayNumber {l : Launch} {κ : KMt} {S : MS} {Z : MS} (x1 : Int32) (h : r_sayNumber S x1 = some Z) : Go l (EM κ) RX12 cX12_sayNumber 2 none 1 21 0 0 none Z 0 [(0, .ref κ.o), (1, .int x1)] [] S := by
  unfold r_sayNumber at h
  refine Go.iload_n 1 dX12_sayNumber_0 rfl ?_
  refine Go.bipush 99 dX12_sayNumber_1 (by decide) ?_
  refine Go.icmp_le 17 dX12_sayNumber_3 (by decide) h (fun h => ?_) (fun h => ?_)
  · exact rs_sayNumber_17 _ _ h
  · refine Go.aload_n 0 dX12_sayNumber_6 rfl ?_
    refine Go.bipush 48 dX12_sayNumber_7 (by decide) ?_
    refine Go.iload_n 1 dX12_sayNumber_9 rfl ?_
    refine Go.bipush 100 dX12_sayNumber_10 (by decide) ?_
    refine Go.idiv dX12_sayNumber_12 (by decide) ?_
    refine Go.iadd dX12_sayNumber_13 ?_
    refine GM.callvu (rest := []) [.int (48 + (x1 / 100))] dX12_sayNumber_14 ck_say ci_say (rt_say _) rfl rfl (Nat.le_of_ble_eq_true rfl) (Nat.le_of_ble_eq_true rfl) (Nat.le_of_ble_eq_true rfl) h (fun S3 h => ?_)
    exact rs_sayNumber_17 _ _ h
set_option maxRecDepth 20000 in
theorem rt_sayNumber {l : Launch} {κ : KMt} {S : MS} (x1 : Int32) : ∀ Z, r_sayNumber S x1 = some Z → MtM l κ yX12_sayNumber cX12_sayNumber 2 none 1 21 [.ref κ.o, .int x1] S none Z := fun Z h => MtM.of (by decide +kernel) rfl (Nat.le_of_ble_eq_true rfl) ⟨rfl, rfl, trivial⟩ (rs_sayNumber x1 h)
/-! sayNo -/
def r_sayNo (S : MS)  : Option (MS) := (r_say S 110).bind (fun S1 => (r_say S1 111).bind (fun S2 => some S2))
set_option maxRecDepth 20000 in
theorem rs_sayNo {l : Launch} {κ : KMt} {S : MS} {Z : MS}  (h : r_sayNo S  = some Z) : Go l (EM κ) RX12 cX12_sayNo 1 none 1 21 0 0 none Z 0 [(0, .ref κ.o)] [] S := by
  unfold r_sayNo at h
  refine Go.aload_n 0 dX12_sayNo_0 rfl ?_
  refine Go.bipush 110 dX12_sayNo_1 (by decide) ?_
  refine GM.callvu (rest := []) [.int 110] dX12_sayNo_3 ck_say ci_say (rt_say _) rfl rfl (Nat.le_of_ble_eq_true rfl) (Nat.le_of_ble_eq_true rfl) (Nat.le_of_ble_eq_true rfl) h (fun S1 h => ?_)
  refine Go.aload_n 0 dX12_sayNo_6 rfl ?_
  refine Go.bipush 111 dX12_sayNo_7 (by decide) ?_
  refine GM.callvu (rest := []) [.int 111] dX12_sayNo_9 ck_say ci_say (rt_say _) rfl rfl (Nat.le_of_ble_eq_true rfl) (Nat.le_of_ble_eq_true rfl) (Nat.le_of_ble_eq_true rfl) h (fun S2 h => ?_)
  cases h
  exact Go.vret dX12_sayNo_12 rfl
set_option maxRecDepth 20000 in
theorem rt_sayNo {l : Launch} {κ : KMt} {S : MS}  : ∀ Z, r_sayNo S  = some Z → MtM l κ yX12_sayNo cX12_sayNo 1 none 1 21 [.ref κ.o] S none Z := fun Z h => MtM.of (by decide +kernel) rfl (Nat.le_of_ble_eq_true rfl) ⟨rfl, trivial⟩ (rs_sayNo  h)
/-! sayOk -/
def r_sayOk (S : MS) (x1 : Int32) : Option (MS) := if x1 = 0 then (r_sayNo S ).bind (fun S3 => some S3) else (r_say S 111).bind (fun S1 => (r_say S1 107).bind (fun S2 => some S2))
set_option maxRecDepth 20000 in
theorem rs_sayOk {l : Launch} {κ : KMt} {S : MS} {Z : MS} (x1 : Int32) (h : r_sayOk S x1 = some Z) : Go l (EM κ) RX12 cX12_sayOk 2 none 2 41 0 0 none Z 0 [(0, .ref κ.o), (1, .int x1)] [] S := by
  unfold r_sayOk at h
  refine Go.iload_n 1 dX12_sayOk_0 rfl ?_
  refine Go.if_ne 9 dX12_sayOk_1 (by decide) h (fun h => ?_) (fun h => ?_)
  · refine Go.aload_n 0 dX12_sayOk_9 rfl ?_
    refine Go.bipush 111 dX12_sayOk_10 (by decide) ?_
    refine GM.callvu (rest := []) [.int 111] dX12_sayOk_12 ck_say ci_say (rt_say _) rfl rfl (Nat.le_of_ble_eq_true rfl) (Nat.le_of_ble_eq_true rfl) (Nat.le_of_ble_eq_true rfl) h (fun S1 h => ?_)
    refine Go.aload_n 0 dX12_sayOk_15 rfl ?_
    refine Go.bipush 107 dX12_sayOk_16 (by decide) ?_
    refine GM.callvu (rest := []) [.int 107] dX12_sayOk_18 ck_say ci_say (rt_say _) rfl rfl (Nat.le_of_ble_eq_true rfl) (Nat.le_of_ble_eq_true rfl) (Nat.le_of_ble_eq_true rfl) h (fun S2 h => ?_)
    cases h
    exact Go.vret dX12_sayOk_21 rfl
  · refine Go.aload_n 0 dX12_sayOk_4 rfl ?_
    refine GM.callvu (rest := []) [] dX12_sayOk_5 ck_sayNo ci_sayNo (rt_sayNo ) rfl rfl (Nat.le_of_ble_eq_true rfl) (Nat.le_of_ble_eq_true rfl) (Nat.le_of_ble_eq_true rfl) h (fun S3 h => ?_)
    cases h
    exact Go.vret dX12_sayOk_8 rfl
set_option maxRecDepth 20000 in
theorem rt_sayOk {l : Launch} {κ : KMt} {S : MS} (x1 : Int32) : ∀ Z, r_sayOk S x1 = some Z → MtM l κ yX12_sayOk cX12_sayOk 2 none 2 41 [.ref κ.o, .int x1] S none Z := fun Z h => MtM.of (by decide +kernel) rfl (Nat.le_of_ble_eq_true rfl) ⟨rfl, rfl, trivial⟩ (rs_sayOk x1 h)
/-! sayNumberOrNo -/
def r_sayNumberOrNo (S : MS) (x1 : Int32) : Option (MS) := if x1 = (-1) then (r_sayNo S ).bind (fun S2 => some S2) else (r_sayNumber S x1).bind (fun S1 => some S1)
set_option maxRecDepth 20000 in
theorem rs_sayNumberOrNo {l : Launch} {κ : KMt} {S : MS} {Z : MS} (x1 : Int32) (h : r_sayNumberOrNo S x1 = some Z) : Go l (EM κ) RX12 cX12_sayNumberOrNo 2 none 2 42 0 0 none Z 0 [(0, .ref κ.o), (1, .int x1)] [] S := by
  unfold r_sayNumberOrNo at h
  refine Go.iload_n 1 dX12_sayNumberOrNo_0 rfl ?_
  refine Go.iconst (-1) dX12_sayNumberOrNo_1 (by decide) ?_
  refine Go.icmp_ne 12 dX12_sayNumberOrNo_2 (by decide) h (fun h => ?_) (fun h => ?_)
  · refine Go.aload_n 0 dX12_sayNumberOrNo_12 rfl ?_
    refine Go.iload_n 1 dX12_sayNumberOrNo_13 rfl ?_
    refine GM.callvu (rest := []) [.int x1] dX12_sayNumberOrNo_14 ck_sayNumber ci_sayNumber (rt_sayNumber _) rfl rfl (Nat.le_of_ble_eq_true rfl) (Nat.le_of_ble_eq_true rfl) (Nat.le_of_ble_eq_true rfl) h (fun S1 h => ?_)
    cases h
    exact Go.vret dX12_sayNumberOrNo_17 rfl
  · refine Go.aload_n 0 dX12_sayNumberOrNo_5 rfl ?_
    refine GM.callvu (rest := []) [] dX12_sayNumberOrNo_6 ck_sayNo ci_sayNo (rt_sayNo ) rfl rfl (Nat.le_of_ble_eq_true rfl) (Nat.le_of_ble_eq_true rfl) (Nat.le_of_ble_eq_true rfl) h (fun S2 h => ?_)
    refine Go.goto 17 dX12_sayNumberOrNo_9 (by decide) ?_
    cases h
    exact Go.vret dX12_sayNumberOrNo_17 rfl
set_option maxRecDepth 20000 in
theorem rt_sayNumberOrNo {l : Launch} {κ : KMt} {S : MS} (x1 : Int32) : ∀ Z, r_sayNumberOrNo S x1 = some Z → MtM l κ yX12_sayNumberOrNo cX12_sayNumberOrNo 2 none 2 42 [.ref κ.o, .int x1] S none Z := fun Z h => MtM.of (by decide +kernel) rfl (Nat.le_of_ble_eq_true rfl) ⟨rfl, rfl, trivial⟩ (rs_sayNumberOrNo x1 h)
/-! sayFound -/
def r_sayFound_33 (k15 : Int32 → MS → Option (MS)) (x1 : Int32) (S : MS) : Option (MS) := (rd S 18 x1).bind (fun v1 => (r_sayNumber S v1).bind (fun S2 => k15 (x1 + 1) S2))
def r_sayFound_15  : Nat → Int32 → MS → Option (MS)
  | 0, _, _ => none
  | n + 1, x1, S => if (S.2 32) ≤ x1 then some S else if x1 ≤ 0 then r_sayFound_33 (r_sayFound_15 n) x1 S else (r_say S 44).bind (fun S3 => r_sayFound_33 (r_sayFound_15 n) x1 S3)
def r_sayFound_13  (S : MS) : Option (MS) := r_sayFound_15 FU 0 S
def r_sayFound (S : MS)  : Option (MS) := if (S.2 32) = 0 then (r_say S 45).bind (fun S4 => r_sayFound_13 S4) else r_sayFound_13 S
set_option maxRecDepth 20000 in
theorem rs_sayFound_33 {l : Launch} {κ : KMt} {Z : MS} (k15 : Int32 → MS → Option (MS)) (h15 : ∀ (x1 : Int32) (S : MS), k15 x1 S = some Z → Go l (EM κ) RX12 cX12_sayFound 2 none 2 42 0 0 none Z 15 [(0, .ref κ.o), (1, .int x1)] [] S) (x1 : Int32) (S : MS) (h : r_sayFound_33 k15 x1 S = some Z) : Go l (EM κ) RX12 cX12_sayFound 2 none 2 42 0 0 none Z 33 [(0, .ref κ.o), (1, .int x1)] [] S := by
  unfold r_sayFound_33 at h
  refine Go.aload_n 0 dX12_sayFound_33 rfl ?_
  refine Go.aload_n 0 dX12_sayFound_34 rfl ?_
  refine GM.geta 25 18 (by decide) rfl fl_found rfl dX12_sayFound_35 ?_
  refine Go.iload_n 1 dX12_sayFound_38 rfl ?_
  refine GM.iald 18 (by decide) rfl dX12_sayFound_39 h (fun v1 h => ?_)
  refine GM.callvu (rest := []) [.int v1] dX12_sayFound_40 ck_sayNumber ci_sayNumber (rt_sayNumber _) rfl rfl (Nat.le_of_ble_eq_true rfl) (Nat.le_of_ble_eq_true rfl) (Nat.le_of_ble_eq_true rfl) h (fun S2 h => ?_)
  refine Go.iinc (w := 1) 1 [(0, .ref κ.o), (1, .int (x1 + 1))] dX12_sayFound_43 rfl (by decide) (by decide) rfl ?_
  refine Go.goto 15 dX12_sayFound_46 (by decide) ?_
  exact h15 _ _ h
set_option maxRecDepth 20000 in
theorem rs_sayFound_15 {l : Launch} {κ : KMt} {Z : MS} (n : Nat) : ∀ (x1 : Int32) (S : MS), r_sayFound_15 n x1 S = some Z → Go l (EM κ) RX12 cX12_sayFound 2 none 2 42 0 0 none Z 15 [(0, .ref κ.o), (1, .int x1)] [] S := by
  induction n with
  | zero => intro x1 S h; rw [r_sayFound_15] at h; cases h
  | succ n ih =>
    intro x1 S h
    rw [r_sayFound_15] at h
    refine Go.iload_n 1 dX12_sayFound_15 rfl ?_
    refine Go.aload_n 0 dX12_sayFound_16 rfl ?_
    refine GM.geti 32 (by decide) rfl fl_answered rfl dX12_sayFound_17 ?_
    refine Go.icmp_ge 49 dX12_sayFound_20 (by decide) h (fun h => ?_) (fun h => ?_)
    · cases h
      exact Go.vret dX12_sayFound_49 rfl
    · refine Go.iload_n 1 dX12_sayFound_23 rfl ?_
      refine Go.if_le 33 dX12_sayFound_24 (by decide) h (fun h => ?_) (fun h => ?_)
      · exact rs_sayFound_33 _ ih _ _ h
      · refine Go.aload_n 0 dX12_sayFound_27 rfl ?_
        refine Go.bipush 44 dX12_sayFound_28 (by decide) ?_
        refine GM.callvu (rest := []) [.int 44] dX12_sayFound_30 ck_say ci_say (rt_say _) rfl rfl (Nat.le_of_ble_eq_true rfl) (Nat.le_of_ble_eq_true rfl) (Nat.le_of_ble_eq_true rfl) h (fun S3 h => ?_)
        exact rs_sayFound_33 _ ih _ _ h
set_option maxRecDepth 20000 in
theorem rs_sayFound_13 {l : Launch} {κ : KMt} {Z : MS} (S : MS) (h : r_sayFound_13 S = some Z) : Go l (EM κ) RX12 cX12_sayFound 2 none 2 42 0 0 none Z 13 [(0, .ref κ.o)] [] S := by
  unfold r_sayFound_13 at h
  refine Go.iconst 0 dX12_sayFound_13 (by decide) ?_
  refine Go.istore_n [(0, .ref κ.o), (1, .int 0)] dX12_sayFound_14 (by decide) rfl ?_
  exact rs_sayFound_15 _ _ _ h
set_option maxRecDepth 20000 in
theorem rs_sayFound {l : Launch} {κ : KMt} {S : MS} {Z : MS}  (h : r_sayFound S  = some Z) : Go l (EM κ) RX12 cX12_sayFound 2 none 2 42 0 0 none Z 0 [(0, .ref κ.o)] [] S := by
  unfold r_sayFound at h
  refine Go.aload_n 0 dX12_sayFound_0 rfl ?_
  refine GM.geti 32 (by decide) rfl fl_answered rfl dX12_sayFound_1 ?_
  refine Go.if_ne 13 dX12_sayFound_4 (by decide) h (fun h => ?_) (fun h => ?_)
  · exact rs_sayFound_13 _ h
  · refine Go.aload_n 0 dX12_sayFound_7 rfl ?_
    refine Go.bipush 45 dX12_sayFound_8 (by decide) ?_
    refine GM.callvu (rest := []) [.int 45] dX12_sayFound_10 ck_say ci_say (rt_say _) rfl rfl (Nat.le_of_ble_eq_true rfl) (Nat.le_of_ble_eq_true rfl) (Nat.le_of_ble_eq_true rfl) h (fun S4 h => ?_)
    exact rs_sayFound_13 _ h
set_option maxRecDepth 20000 in
theorem rt_sayFound {l : Launch} {κ : KMt} {S : MS}  : ∀ Z, r_sayFound S  = some Z → MtM l κ yX12_sayFound cX12_sayFound 2 none 2 42 [.ref κ.o] S none Z := fun Z h => MtM.of (by decide +kernel) rfl (Nat.le_of_ble_eq_true rfl) ⟨rfl, trivial⟩ (rs_sayFound  h)
/-! search -/
def r_search_50  (S : MS) : Option (MS) := (r_sayFound S ).bind (fun S1 => some S1)
def r_search_26  (x1 : Int32) (x2 : Int32) (x3 : Int32) (S : MS) : Option (MS) := (r_begin S x1 (-1)).bind (fun S2 => if x3 = 0 then (r_findWithin S2 x2).bind (fun S3 => r_search_50 S3) else (r_findBest S2 x2 0).bind (fun S4 => r_search_50 S4))
def r_search_21  (S : MS) : Option (MS) := (r_sayNo S ).bind (fun S5 => some S5)
def r_search (S : MS) (x1 : Int32) (x2 : Int32) (x3 : Int32) : Option (MS) := if x3 = 0 then (r_isFarNumber S x2).bind (fun v6 => if v6 = 0 then r_search_21 S else r_search_26 x1 x2 x3 S) else (r_isMany S x2).bind (fun v7 => if v7 = 0 then r_search_21 S else r_search_26 x1 x2 x3 S)
set_option maxRecDepth 20000 in
theorem rs_search_50 {l : Launch} {κ : KMt} {Z : MS} (S : MS) (h : r_search_50 S = some Z) : Go l (EM κ) RX12 cX12_search 4 none 9 219 0 0 none Z 50 [(0, .ref κ.o)] [] S := by
  unfold r_search_50 at h
  refine Go.aload_n 0 dX12_search_50 rfl ?_
  refine GM.callvu (rest := []) [] dX12_search_51 ck_sayFound ci_sayFound (rt_sayFound ) rfl rfl (Nat.le_of_ble_eq_true rfl) (Nat.le_of_ble_eq_true rfl) (Nat.le_of_ble_eq_true rfl) h (fun S1 h => ?_)
  cases h
  exact Go.vret dX12_search_54 rfl
set_option maxRecDepth 20000 in
theorem rs_search_26 {l : Launch} {κ : KMt} {Z : MS} (x1 : Int32) (x2 : Int32) (x3 : Int32) (S : MS) (h : r_search_26 x1 x2 x3 S = some Z) : Go l (EM κ) RX12 cX12_search 4 none 9 219 0 0 none Z 26 [(0, .ref κ.o), (1, .int x1), (2, .int x2), (3, .int x3)] [] S := by
  unfold r_search_26 at h
  refine Go.aload_n 0 dX12_search_26 rfl ?_
  refine Go.iload_n 1 dX12_search_27 rfl ?_
  refine Go.iconst (-1) dX12_search_28 (by decide) ?_
  refine GM.callvu (rest := []) [.int x1, .int (-1)] dX12_search_29 ck_begin ci_begin (rt_begin _ _) rfl rfl (Nat.le_of_ble_eq_true rfl) (Nat.le_of_ble_eq_true rfl) (Nat.le_of_ble_eq_true rfl) h (fun S2 h => ?_)
  refine Go.iload_n 3 dX12_search_32 rfl ?_
  refine Go.if_eq 45 dX12_search_33 (by decide) h (fun h => ?_) (fun h => ?_)
  · refine Go.aload_n 0 dX12_search_45 rfl ?_
    refine Go.iload_n 2 dX12_search_46 rfl ?_
    refine GM.callvu (rest := []) [.int x2] dX12_search_47 ck_findWithin ci_findWithin (rt_findWithin _) rfl rfl (Nat.le_of_ble_eq_true rfl) (Nat.le_of_ble_eq_true rfl) (Nat.le_of_ble_eq_true rfl) h (fun S3 h => ?_)
    refine Go.sub [0] rfl ?_
    exact rs_search_50 _ h
  · refine Go.aload_n 0 dX12_search_36 rfl ?_
    refine Go.iload_n 2 dX12_search_37 rfl ?_
    refine Go.iconst 0 dX12_search_38 (by decide) ?_
    refine GM.callvu (rest := []) [.int x2, .int 0] dX12_search_39 ck_findBest ci_findBest (rt_findBest _ _) rfl rfl (Nat.le_of_ble_eq_true rfl) (Nat.le_of_ble_eq_true rfl) (Nat.le_of_ble_eq_true rfl) h (fun S4 h => ?_)
    refine Go.goto 50 dX12_search_42 (by decide) ?_
    refine Go.sub [0] rfl ?_
    exact rs_search_50 _ h
set_option maxRecDepth 20000 in
theorem rs_search_21 {l : Launch} {κ : KMt} {Z : MS} (S : MS) (h : r_search_21 S = some Z) : Go l (EM κ) RX12 cX12_search 4 none 9 219 0 0 none Z 21 [(0, .ref κ.o)] [] S := by
  unfold r_search_21 at h
  refine Go.aload_n 0 dX12_search_21 rfl ?_
  refine GM.callvu (rest := []) [] dX12_search_22 ck_sayNo ci_sayNo (rt_sayNo ) rfl rfl (Nat.le_of_ble_eq_true rfl) (Nat.le_of_ble_eq_true rfl) (Nat.le_of_ble_eq_true rfl) h (fun S5 h => ?_)
  cases h
  exact Go.vret dX12_search_25 rfl
set_option maxRecDepth 20000 in
theorem rs_search {l : Launch} {κ : KMt} {S : MS} {Z : MS} (x1 : Int32) (x2 : Int32) (x3 : Int32) (h : r_search S x1 x2 x3 = some Z) : Go l (EM κ) RX12 cX12_search 4 none 9 219 0 0 none Z 0 [(0, .ref κ.o), (1, .int x1), (2, .int x2), (3, .int x3)] [] S := by
  unfold r_search at h
  refine Go.iload_n 3 dX12_search_0 rfl ?_
  refine Go.if_eq 14 dX12_search_1 (by decide) h (fun h => ?_) (fun h => ?_)
  · refine Go.iload_n 2 dX12_search_14 rfl ?_
    refine GM.callsr (rest := []) [.int x2] dX12_search_15 ck_isFarNumber ci_isFarNumber (rt_isFarNumber _) rfl rfl (Nat.le_of_ble_eq_true rfl) (Nat.le_of_ble_eq_true rfl) (Nat.le_of_ble_eq_true rfl) h (fun v6 h => ?_)
    refine Go.if_ne 26 dX12_search_18 (by decide) h (fun h => ?_) (fun h => ?_)
    · exact rs_search_26 _ _ _ _ h
    · refine Go.sub [0] rfl ?_
      exact rs_search_21 _ h
  · refine Go.iload_n 2 dX12_search_4 rfl ?_
    refine GM.callsr (rest := []) [.int x2] dX12_search_5 ck_isMany ci_isMany (rt_isMany _) rfl rfl (Nat.le_of_ble_eq_true rfl) (Nat.le_of_ble_eq_true rfl) (Nat.le_of_ble_eq_true rfl) h (fun v7 h => ?_)
    refine Go.if_ne 26 dX12_search_8 (by decide) h (fun h => ?_) (fun h => ?_)
    · exact rs_search_26 _ _ _ _ h
    · refine Go.goto 21 dX12_search_11 (by decide) ?_
      refine Go.sub [0] rfl ?_
      exact rs_search_21 _ h
set_option maxRecDepth 20000 in
theorem rt_search {l : Launch} {κ : KMt} {S : MS} (x1 : Int32) (x2 : Int32) (x3 : Int32) : ∀ Z, r_search S x1 x2 x3 = some Z → MtM l κ yX12_search cX12_search 4 none 9 219 [.ref κ.o, .int x1, .int x2, .int x3] S none Z := fun Z h => MtM.of (by decide +kernel) rfl (Nat.le_of_ble_eq_true rfl) ⟨rfl, rfl, rfl, rfl, trivial⟩ (rs_search x1 x2 x3 h)
/-! doOne -/
def r_doOne_125  (y1 : Int32) (y2 : Int32) (y3 : Int32) (S : MS) : Option (MS) := (r_search S y1 y2 y3).bind (fun S1 => some S1)
def r_doOne_100  (x1 : Int32) (x2 : Int32) (S : MS) : Option (MS) := (rd S 28 (x1 + 2)).bind (fun v2 => (rd S 28 x1).bind (fun v3 => if v3 = 2 then r_doOne_125 x2 v2 1 S else r_doOne_125 x2 v2 0 S))
def r_doOne_94  (x3 : Int32) (S : MS) : Option (MS) := (r_sayNumberOrNo S x3).bind (fun S4 => some S4)
def r_doOne_74  (y1 : Int32) (S : MS) : Option (MS) := (r_sayNumberOrNo S y1).bind (fun S5 => some S5)
def r_doOne (S : MS) (x1 : Int32) : Option (MS) := (rd S 28 (x1 + 1)).bind (fun v6 => (rd S 28 x1).bind (fun v7 => if v7 = 0 then (r_canPut S v6).bind (fun v8 => if v8 = 0 then r_doOne_74 (-1) S else bd2 (r_tellWord S v6) (fun v9 S10 => r_doOne_74 v9 S10)) else if v7 = 1 then (r_thingOf S v6).bind (fun v11 => if v11 = (-1) then r_doOne_94 v11 S else (r_dropNow S v11).bind (fun S12 => r_doOne_94 v11 S12)) else if v7 = 2 then r_doOne_100 x1 v6 S else if v7 = 3 then r_doOne_100 x1 v6 S else if v7 = 4 then bd2 (r_setNow S 3 v6 0 3 0) (fun v13 S14 => (r_sayOk S14 v13).bind (fun S15 => some S15)) else if v7 = 5 then bd2 (r_setNow S 4 v6 2 6 0) (fun v16 S17 => (r_sayOk S17 v16).bind (fun S18 => some S18)) else if v7 = 6 then (rd S 28 (x1 + 2)).bind (fun v19 => bd2 (r_apartOf S v6 v19) (fun v20 S21 => (r_sayNumber S21 v20).bind (fun S22 => some S22))) else (r_things S ).bind (fun v23 => (r_sayNumber S v23).bind (fun S24 => some S24))))
set_option maxRecDepth 20000 in
theorem rs_doOne_125 {l : Launch} {κ : KMt} {Z : MS} (y1 : Int32) (y2 : Int32) (y3 : Int32) (S : MS) (h : r_doOne_125 y1 y2 y3 S = some Z) : Go l (EM κ) RX12 cX12_doOne 4 none 12 302 0 0 none Z 125 [] [.int y3, .int y2, .int y1, .ref κ.o] S := by
  unfold r_doOne_125 at h
  refine GM.callvu (rest := []) [.int y1, .int y2, .int y3] dX12_doOne_125 ck_search ci_search (rt_search _ _ _) rfl rfl (Nat.le_of_ble_eq_true rfl) (Nat.le_of_ble_eq_true rfl) (Nat.le_of_ble_eq_true rfl) h (fun S1 h => ?_)
  cases h
  exact Go.vret dX12_doOne_128 rfl
set_option maxRecDepth 20000 in
theorem rs_doOne_100 {l : Launch} {κ : KMt} {Z : MS} (x1 : Int32) (x2 : Int32) (S : MS) (h : r_doOne_100 x1 x2 S = some Z) : Go l (EM κ) RX12 cX12_doOne 4 none 12 302 0 0 none Z 100 [(0, .ref κ.o), (1, .int x1), (2, .int x2)] [] S := by
  unfold r_doOne_100 at h
  refine Go.aload_n 0 dX12_doOne_100 rfl ?_
  refine Go.iload_n 2 dX12_doOne_101 rfl ?_
  refine Go.aload_n 0 dX12_doOne_102 rfl ?_
  refine GM.geta 49 28 (by decide) rfl fl_read rfl dX12_doOne_103 ?_
  refine Go.iload_n 1 dX12_doOne_106 rfl ?_
  refine Go.iconst 2 dX12_doOne_107 (by decide) ?_
  refine Go.iadd dX12_doOne_108 ?_
  refine GM.iald 28 (by decide) rfl dX12_doOne_109 h (fun v2 h => ?_)
  refine Go.aload_n 0 dX12_doOne_110 rfl ?_
  refine GM.geta 49 28 (by decide) rfl fl_read rfl dX12_doOne_111 ?_
  refine Go.iload_n 1 dX12_doOne_114 rfl ?_
  refine GM.iald 28 (by decide) rfl dX12_doOne_115 h (fun v3 h => ?_)
  refine Go.iconst 2 dX12_doOne_116 (by decide) ?_
  refine Go.icmp_ne 124 dX12_doOne_117 (by decide) h (fun h => ?_) (fun h => ?_)
  · refine Go.iconst 0 dX12_doOne_124 (by decide) ?_
    refine Go.sub [] rfl ?_
    exact rs_doOne_125 _ _ _ _ h
  · refine Go.iconst 1 dX12_doOne_120 (by decide) ?_
    refine Go.goto 125 dX12_doOne_121 (by decide) ?_
    refine Go.sub [] rfl ?_
    exact rs_doOne_125 _ _ _ _ h
set_option maxRecDepth 20000 in
theorem rs_doOne_94 {l : Launch} {κ : KMt} {Z : MS} (x3 : Int32) (S : MS) (h : r_doOne_94 x3 S = some Z) : Go l (EM κ) RX12 cX12_doOne 4 none 12 302 0 0 none Z 94 [(0, .ref κ.o), (3, .int x3)] [] S := by
  unfold r_doOne_94 at h
  refine Go.aload_n 0 dX12_doOne_94 rfl ?_
  refine Go.iload_n 1 dX12_doOne_95 rfl ?_
  refine GM.callvu (rest := []) [.int x3] dX12_doOne_96 ck_sayNumberOrNo ci_sayNumberOrNo (rt_sayNumberOrNo _) rfl rfl (Nat.le_of_ble_eq_true rfl) (Nat.le_of_ble_eq_true rfl) (Nat.le_of_ble_eq_true rfl) h (fun S4 h => ?_)
  cases h
  exact Go.vret dX12_doOne_99 rfl
set_option maxRecDepth 20000 in
theorem rs_doOne_74 {l : Launch} {κ : KMt} {Z : MS} (y1 : Int32) (S : MS) (h : r_doOne_74 y1 S = some Z) : Go l (EM κ) RX12 cX12_doOne 4 none 12 302 0 0 none Z 74 [] [.int y1, .ref κ.o] S := by
  unfold r_doOne_74 at h
  refine GM.callvu (rest := []) [.int y1] dX12_doOne_74 ck_sayNumberOrNo ci_sayNumberOrNo (rt_sayNumberOrNo _) rfl rfl (Nat.le_of_ble_eq_true rfl) (Nat.le_of_ble_eq_true rfl) (Nat.le_of_ble_eq_true rfl) h (fun S5 h => ?_)
  cases h
  exact Go.vret dX12_doOne_77 rfl
set_option maxRecDepth 20000 in
theorem rs_doOne {l : Launch} {κ : KMt} {S : MS} {Z : MS} (x1 : Int32) (h : r_doOne S x1 = some Z) : Go l (EM κ) RX12 cX12_doOne 4 none 12 302 0 0 none Z 0 [(0, .ref κ.o), (1, .int x1)] [] S := by
  unfold r_doOne at h
  refine Go.aload_n 0 dX12_doOne_0 rfl ?_
  refine GM.geta 49 28 (by decide) rfl fl_read rfl dX12_doOne_1 ?_
  refine Go.iload_n 1 dX12_doOne_4 rfl ?_
  refine Go.iconst 1 dX12_doOne_5 (by decide) ?_
  refine Go.iadd dX12_doOne_6 ?_
  refine GM.iald 28 (by decide) rfl dX12_doOne_7 h (fun v6 h => ?_)
  refine Go.istore_n [(0, .ref κ.o), (1, .int x1), (2, .int v6)] dX12_doOne_8 (by decide) rfl ?_
  refine Go.aload_n 0 dX12_doOne_9 rfl ?_
  refine GM.geta 49 28 (by decide) rfl fl_read rfl dX12_doOne_10 ?_
  refine Go.iload_n 1 dX12_doOne_13 rfl ?_
  refine GM.iald 28 (by decide) rfl dX12_doOne_14 h (fun v7 h => ?_)
  by_cases cc0 : v7 = 0
  · rw [if_pos cc0] at h
    refine Go.tabIn 56 0 cc0 dX12_doOne_15 (by decide) (by decide) rfl (by decide) ?_
    refine Go.aload_n 0 dX12_doOne_56 rfl ?_
    refine Go.aload_n 0 dX12_doOne_57 rfl ?_
    refine Go.iload_n 2 dX12_doOne_58 rfl ?_
    refine GM.callvr (rest := [.ref κ.o]) [.int v6] dX12_doOne_59 ck_canPut ci_canPut (rt_canPut _) rfl rfl (Nat.le_of_ble_eq_true rfl) (Nat.le_of_ble_eq_true rfl) (Nat.le_of_ble_eq_true rfl) h (fun v8 h => ?_)
    refine Go.if_eq 73 dX12_doOne_62 (by decide) h (fun h => ?_) (fun h => ?_)
    · refine Go.iconst (-1) dX12_doOne_73 (by decide) ?_
      refine Go.sub [] rfl ?_
      exact rs_doOne_74 _ _ h
    · refine Go.aload_n 0 dX12_doOne_65 rfl ?_
      refine Go.iload_n 2 dX12_doOne_66 rfl ?_
      refine GM.callvw (rest := [.ref κ.o]) [.int v6] dX12_doOne_67 ck_tellWord ci_tellWord (rt_tellWord _) rfl rfl (Nat.le_of_ble_eq_true rfl) (Nat.le_of_ble_eq_true rfl) (Nat.le_of_ble_eq_true rfl) h (fun v9 S10 h => ?_)
      refine Go.goto 74 dX12_doOne_70 (by decide) ?_
      refine Go.sub [] rfl ?_
      exact rs_doOne_74 _ _ h
  rw [if_neg cc0] at h
  by_cases cc1 : v7 = 1
  · rw [if_pos cc1] at h
    refine Go.tabIn 78 1 cc1 dX12_doOne_15 (by decide) (by decide) rfl (by decide) ?_
    refine Go.aload_n 0 dX12_doOne_78 rfl ?_
    refine Go.iload_n 2 dX12_doOne_79 rfl ?_
    refine GM.callvr (rest := []) [.int v6] dX12_doOne_80 ck_thingOf ci_thingOf (rt_thingOf _) rfl rfl (Nat.le_of_ble_eq_true rfl) (Nat.le_of_ble_eq_true rfl) (Nat.le_of_ble_eq_true rfl) h (fun v11 h => ?_)
    refine Go.istore_n [(0, .ref κ.o), (1, .int x1), (2, .int v6), (3, .int v11)] dX12_doOne_83 (by decide) rfl ?_
    refine Go.iload_n 3 dX12_doOne_84 rfl ?_
    refine Go.iconst (-1) dX12_doOne_85 (by decide) ?_
    refine Go.icmp_eq 94 dX12_doOne_86 (by decide) h (fun h => ?_) (fun h => ?_)
    · refine Go.sub [0, 3] rfl ?_
      exact rs_doOne_94 _ _ h
    · refine Go.aload_n 0 dX12_doOne_89 rfl ?_
      refine Go.iload_n 3 dX12_doOne_90 rfl ?_
      refine GM.callvu (rest := []) [.int v11] dX12_doOne_91 ck_dropNow ci_dropNow (rt_dropNow _) rfl rfl (Nat.le_of_ble_eq_true rfl) (Nat.le_of_ble_eq_true rfl) (Nat.le_of_ble_eq_true rfl) h (fun S12 h => ?_)
      refine Go.sub [0, 3] rfl ?_
      exact rs_doOne_94 _ _ h
  rw [if_neg cc1] at h
  by_cases cc2 : v7 = 2
  · rw [if_pos cc2] at h
    refine Go.tabIn 100 2 cc2 dX12_doOne_15 (by decide) (by decide) rfl (by decide) ?_
    exact rs_doOne_100 _ _ _ h
  rw [if_neg cc2] at h
  by_cases cc3 : v7 = 3
  · rw [if_pos cc3] at h
    refine Go.tabIn 100 3 cc3 dX12_doOne_15 (by decide) (by decide) rfl (by decide) ?_
    exact rs_doOne_100 _ _ _ h
  rw [if_neg cc3] at h
  by_cases cc4 : v7 = 4
  · rw [if_pos cc4] at h
    refine Go.tabIn 129 4 cc4 dX12_doOne_15 (by decide) (by decide) rfl (by decide) ?_
    refine Go.aload_n 0 dX12_doOne_129 rfl ?_
    refine Go.aload_n 0 dX12_doOne_130 rfl ?_
    refine Go.iconst 3 dX12_doOne_131 (by decide) ?_
    refine Go.iload_n 2 dX12_doOne_132 rfl ?_
    refine Go.iconst 0 dX12_doOne_133 (by decide) ?_
    refine Go.iconst 3 dX12_doOne_134 (by decide) ?_
    refine Go.iconst 0 dX12_doOne_135 (by decide) ?_
    refine GM.callvw (rest := [.ref κ.o]) [.int 3, .int v6, .int 0, .int 3, .int 0] dX12_doOne_136 ck_setNow ci_setNow (rt_setNow _ _ _ _ _) rfl rfl (Nat.le_of_ble_eq_true rfl) (Nat.le_of_ble_eq_true rfl) (Nat.le_of_ble_eq_true rfl) h (fun v13 S14 h => ?_)
    refine GM.callvu (rest := []) [.int v13] dX12_doOne_139 ck_sayOk ci_sayOk (rt_sayOk _) rfl rfl (Nat.le_of_ble_eq_true rfl) (Nat.le_of_ble_eq_true rfl) (Nat.le_of_ble_eq_true rfl) h (fun S15 h => ?_)
    cases h
    exact Go.vret dX12_doOne_142 rfl
  rw [if_neg cc4] at h
  by_cases cc5 : v7 = 5
  · rw [if_pos cc5] at h
    refine Go.tabIn 143 5 cc5 dX12_doOne_15 (by decide) (by decide) rfl (by decide) ?_
    refine Go.aload_n 0 dX12_doOne_143 rfl ?_
    refine Go.aload_n 0 dX12_doOne_144 rfl ?_
    refine Go.iconst 4 dX12_doOne_145 (by decide) ?_
    refine Go.iload_n 2 dX12_doOne_146 rfl ?_
    refine Go.iconst 2 dX12_doOne_147 (by decide) ?_
    refine Go.bipush 6 dX12_doOne_148 (by decide) ?_
    refine Go.iconst 0 dX12_doOne_150 (by decide) ?_
    refine GM.callvw (rest := [.ref κ.o]) [.int 4, .int v6, .int 2, .int 6, .int 0] dX12_doOne_151 ck_setNow ci_setNow (rt_setNow _ _ _ _ _) rfl rfl (Nat.le_of_ble_eq_true rfl) (Nat.le_of_ble_eq_true rfl) (Nat.le_of_ble_eq_true rfl) h (fun v16 S17 h => ?_)
    refine GM.callvu (rest := []) [.int v16] dX12_doOne_154 ck_sayOk ci_sayOk (rt_sayOk _) rfl rfl (Nat.le_of_ble_eq_true rfl) (Nat.le_of_ble_eq_true rfl) (Nat.le_of_ble_eq_true rfl) h (fun S18 h => ?_)
    cases h
    exact Go.vret dX12_doOne_157 rfl
  rw [if_neg cc5] at h
  by_cases cc6 : v7 = 6
  · rw [if_pos cc6] at h
    refine Go.tabIn 158 6 cc6 dX12_doOne_15 (by decide) (by decide) rfl (by decide) ?_
    refine Go.aload_n 0 dX12_doOne_158 rfl ?_
    refine Go.aload_n 0 dX12_doOne_159 rfl ?_
    refine Go.iload_n 2 dX12_doOne_160 rfl ?_
    refine Go.aload_n 0 dX12_doOne_161 rfl ?_
    refine GM.geta 49 28 (by decide) rfl fl_read rfl dX12_doOne_162 ?_
    refine Go.iload_n 1 dX12_doOne_165 rfl ?_
    refine Go.iconst 2 dX12_doOne_166 (by decide) ?_
    refine Go.iadd dX12_doOne_167 ?_
    refine GM.iald 28 (by decide) rfl dX12_doOne_168 h (fun v19 h => ?_)
    refine GM.callvw (rest := [.ref κ.o]) [.int v6, .int v19] dX12_doOne_169 ck_apartOf ci_apartOf (rt_apartOf _ _) rfl rfl (Nat.le_of_ble_eq_true rfl) (Nat.le_of_ble_eq_true rfl) (Nat.le_of_ble_eq_true rfl) h (fun v20 S21 h => ?_)
    refine GM.callvu (rest := []) [.int v20] dX12_doOne_172 ck_sayNumber ci_sayNumber (rt_sayNumber _) rfl rfl (Nat.le_of_ble_eq_true rfl) (Nat.le_of_ble_eq_true rfl) (Nat.le_of_ble_eq_true rfl) h (fun S22 h => ?_)
    cases h
    exact Go.vret dX12_doOne_175 rfl
  rw [if_neg cc6] at h
  refine Go.tabOut 176 dX12_doOne_15 (sw_out (0) 7 (by decide) (fun k hk => match k, hk with | 0, _ => cc0 | 1, _ => cc1 | 2, _ => cc2 | 3, _ => cc3 | 4, _ => cc4 | 5, _ => cc5 | 6, _ => cc6 | (k + 7), hk => absurd hk (by omega)) _ rfl) (by decide) ?_
  refine Go.aload_n 0 dX12_doOne_176 rfl ?_
  refine Go.aload_n 0 dX12_doOne_177 rfl ?_
  refine GM.callvr (rest := [.ref κ.o]) [] dX12_doOne_178 ck_things ci_things (rt_things ) rfl rfl (Nat.le_of_ble_eq_true rfl) (Nat.le_of_ble_eq_true rfl) (Nat.le_of_ble_eq_true rfl) h (fun v23 h => ?_)
  refine GM.callvu (rest := []) [.int v23] dX12_doOne_181 ck_sayNumber ci_sayNumber (rt_sayNumber _) rfl rfl (Nat.le_of_ble_eq_true rfl) (Nat.le_of_ble_eq_true rfl) (Nat.le_of_ble_eq_true rfl) h (fun S24 h => ?_)
  cases h
  exact Go.vret dX12_doOne_184 rfl
set_option maxRecDepth 20000 in
theorem rt_doOne {l : Launch} {κ : KMt} {S : MS} (x1 : Int32) : ∀ Z, r_doOne S x1 = some Z → MtM l κ yX12_doOne cX12_doOne 4 none 12 302 [.ref κ.o, .int x1] S none Z := fun Z h => MtM.of (by decide +kernel) rfl (Nat.le_of_ble_eq_true rfl) ⟨rfl, rfl, trivial⟩ (rs_doOne x1 h)
/-! perform -/
def r_perform_45 (k27 : Int32 → MS → Option (Int32 × MS)) (x2 : Int32) (S : MS) : Option (Int32 × MS) := (r_doOne S (3 * x2)).bind (fun S1 => k27 (x2 + 1) S1)
def r_perform_27  : Nat → Int32 → MS → Option (Int32 × MS)
  | 0, _, _ => none
  | n + 1, x2, S => if (S.2 50) ≤ x2 then some ((S.2 50), S) else if x2 ≤ 0 then r_perform_45 (r_perform_27 n) x2 S else (r_say S 59).bind (fun S2 => r_perform_45 (r_perform_27 n) x2 S2)
def r_perform (S : MS)  : Option (Int32 × MS) := bd2 (r_readAll S ) (fun v3 S4 => if v3 = 0 then some ((-1), (pf (pf S4 44 0) 52 0)) else (r_keep (pf (pf S4 44 0) 52 0) ).bind (fun S5 => r_perform_27 FU 0 S5))
set_option maxRecDepth 20000 in
theorem rs_perform_45 {l : Launch} {κ : KMt} {Z : Int32 × MS} (k27 : Int32 → MS → Option (Int32 × MS)) (h27 : ∀ (x2 : Int32) (S : MS), k27 x2 S = some Z → Go l (EM κ) RX12 cX12_perform 3 (some .int) 13 325 0 0 (some (.int Z.1)) Z.2 27 [(0, .ref κ.o), (2, .int x2)] [] S) (x2 : Int32) (S : MS) (h : r_perform_45 k27 x2 S = some Z) : Go l (EM κ) RX12 cX12_perform 3 (some .int) 13 325 0 0 (some (.int Z.1)) Z.2 45 [(0, .ref κ.o), (2, .int x2)] [] S := by
  unfold r_perform_45 at h
  refine Go.aload_n 0 dX12_perform_45 rfl ?_
  refine Go.iconst 3 dX12_perform_46 (by decide) ?_
  refine Go.iload_n 1 dX12_perform_47 rfl ?_
  refine Go.imul dX12_perform_48 ?_
  refine GM.callvu (rest := []) [.int (3 * x2)] dX12_perform_49 ck_doOne ci_doOne (rt_doOne _) rfl rfl (Nat.le_of_ble_eq_true rfl) (Nat.le_of_ble_eq_true rfl) (Nat.le_of_ble_eq_true rfl) h (fun S1 h => ?_)
  refine Go.iinc (w := 1) 1 [(0, .ref κ.o), (2, .int (x2 + 1))] dX12_perform_52 rfl (by decide) (by decide) rfl ?_
  refine Go.goto 27 dX12_perform_55 (by decide) ?_
  exact h27 _ _ h
set_option maxRecDepth 20000 in
theorem rs_perform_27 {l : Launch} {κ : KMt} {Z : Int32 × MS} (n : Nat) : ∀ (x2 : Int32) (S : MS), r_perform_27 n x2 S = some Z → Go l (EM κ) RX12 cX12_perform 3 (some .int) 13 325 0 0 (some (.int Z.1)) Z.2 27 [(0, .ref κ.o), (2, .int x2)] [] S := by
  induction n with
  | zero => intro x2 S h; rw [r_perform_27] at h; cases h
  | succ n ih =>
    intro x2 S h
    rw [r_perform_27] at h
    refine Go.iload_n 1 dX12_perform_27 rfl ?_
    refine Go.aload_n 0 dX12_perform_28 rfl ?_
    refine GM.geti 50 (by decide) rfl fl_reads rfl dX12_perform_29 ?_
    refine Go.icmp_ge 58 dX12_perform_32 (by decide) h (fun h => ?_) (fun h => ?_)
    · refine Go.aload_n 0 dX12_perform_58 rfl ?_
      refine GM.geti 50 (by decide) rfl fl_reads rfl dX12_perform_59 ?_
      cases h
      exact Go.iret dX12_perform_62 rfl
    · refine Go.iload_n 1 dX12_perform_35 rfl ?_
      refine Go.if_le 45 dX12_perform_36 (by decide) h (fun h => ?_) (fun h => ?_)
      · exact rs_perform_45 _ ih _ _ h
      · refine Go.aload_n 0 dX12_perform_39 rfl ?_
        refine Go.bipush 59 dX12_perform_40 (by decide) ?_
        refine GM.callvu (rest := []) [.int 59] dX12_perform_42 ck_say ci_say (rt_say _) rfl rfl (Nat.le_of_ble_eq_true rfl) (Nat.le_of_ble_eq_true rfl) (Nat.le_of_ble_eq_true rfl) h (fun S2 h => ?_)
        exact rs_perform_45 _ ih _ _ h
set_option maxRecDepth 20000 in
theorem rs_perform {l : Launch} {κ : KMt} {S : MS} {Z : Int32 × MS}  (h : r_perform S  = some Z) : Go l (EM κ) RX12 cX12_perform 3 (some .int) 13 325 0 0 (some (.int Z.1)) Z.2 0 [(0, .ref κ.o)] [] S := by
  unfold r_perform at h
  refine Go.aload_n 0 dX12_perform_0 rfl ?_
  refine GM.callvw (rest := []) [] dX12_perform_1 ck_readAll ci_readAll (rt_readAll ) rfl rfl (Nat.le_of_ble_eq_true rfl) (Nat.le_of_ble_eq_true rfl) (Nat.le_of_ble_eq_true rfl) h (fun v3 S4 h => ?_)
  refine Go.istore_n [(0, .ref κ.o), (1, .int v3)] dX12_perform_4 (by decide) rfl ?_
  refine Go.aload_n 0 dX12_perform_5 rfl ?_
  refine Go.iconst 0 dX12_perform_6 (by decide) ?_
  refine GM.puti 44 (by decide) rfl fl_sheeted rfl rfl rfl rfl dX12_perform_7 ?_
  refine Go.aload_n 0 dX12_perform_10 rfl ?_
  refine Go.iconst 0 dX12_perform_11 (by decide) ?_
  refine GM.puti 52 (by decide) rfl fl_replied rfl rfl rfl rfl dX12_perform_12 ?_
  refine Go.iload_n 1 dX12_perform_15 rfl ?_
  refine Go.if_ne 21 dX12_perform_16 (by decide) h (fun h => ?_) (fun h => ?_)
  · refine Go.aload_n 0 dX12_perform_21 rfl ?_
    refine GM.callvu (rest := []) [] dX12_perform_22 ck_keep ci_keep (rt_keep ) rfl rfl (Nat.le_of_ble_eq_true rfl) (Nat.le_of_ble_eq_true rfl) (Nat.le_of_ble_eq_true rfl) h (fun S5 h => ?_)
    refine Go.iconst 0 dX12_perform_25 (by decide) ?_
    refine Go.istore_n [(0, .ref κ.o), (1, .int v3), (2, .int 0)] dX12_perform_26 (by decide) rfl ?_
    refine Go.sub [0, 2] rfl ?_
    exact rs_perform_27 _ _ _ h
  · refine Go.iconst (-1) dX12_perform_19 (by decide) ?_
    cases h
    exact Go.iret dX12_perform_20 rfl
set_option maxRecDepth 20000 in
theorem rt_perform {l : Launch} {κ : KMt} {S : MS}  : ∀ Z, r_perform S  = some Z → MtM l κ yX12_perform cX12_perform 3 (some .int) 13 325 [.ref κ.o] S (some (.int Z.1)) Z.2 := fun Z h => MtM.of (by decide +kernel) rfl (Nat.le_of_ble_eq_true rfl) ⟨rfl, trivial⟩ (rs_perform  h)
/-! fault -/
def r_fault (S : MS)  : Option (Int32) := some (S.2 45)
set_option maxRecDepth 20000 in
theorem rs_fault {l : Launch} {κ : KMt} {S : MS} {Z : Int32}  (h : r_fault S  = some Z) : Go l (EM κ) RX12 cX12_fault 1 (some .int) 0 0 0 0 (some (.int Z)) S 0 [(0, .ref κ.o)] [] S := by
  unfold r_fault at h
  refine Go.aload_n 0 dX12_fault_0 rfl ?_
  refine GM.geti 45 (by decide) rfl fl_fault rfl dX12_fault_1 ?_
  cases h
  exact Go.iret dX12_fault_4 rfl
set_option maxRecDepth 20000 in
theorem rt_fault {l : Launch} {κ : KMt} {S : MS}  : ∀ Z, r_fault S  = some Z → MtM l κ yX12_fault cX12_fault 1 (some .int) 0 0 [.ref κ.o] S (some (.int Z)) S := fun Z h => MtM.of (by decide +kernel) rfl (Nat.le_of_ble_eq_true rfl) ⟨rfl, trivial⟩ (rs_fault  h)
/-! reply -/
def r_reply (S : MS) (x1 : Int32) : Option (Int32) := if x1 = (-1) then some (S.2 52) else (r_isIn S x1 0 ((S.2 52) - 1)).bind (fun v1 => if v1 = 0 then some (-1) else (rd S 29 x1).bind (fun v2 => some v2))
set_option maxRecDepth 20000 in
theorem rs_reply {l : Launch} {κ : KMt} {S : MS} {Z : Int32} (x1 : Int32) (h : r_reply S x1 = some Z) : Go l (EM κ) RX12 cX12_reply 2 (some .int) 1 22 0 0 (some (.int Z)) S 0 [(0, .ref κ.o), (1, .int x1)] [] S := by
  unfold r_reply at h
  refine Go.iload_n 1 dX12_reply_0 rfl ?_
  refine Go.iconst (-1) dX12_reply_1 (by decide) ?_
  refine Go.icmp_ne 12 dX12_reply_2 (by decide) h (fun h => ?_) (fun h => ?_)
  · refine Go.iload_n 1 dX12_reply_12 rfl ?_
    refine Go.iconst 0 dX12_reply_13 (by decide) ?_
    refine Go.aload_n 0 dX12_reply_14 rfl ?_
    refine GM.geti 52 (by decide) rfl fl_replied rfl dX12_reply_15 ?_
    refine Go.iconst 1 dX12_reply_18 (by decide) ?_
    refine Go.isub dX12_reply_19 ?_
    refine GM.callsr (rest := []) [.int x1, .int 0, .int ((S.2 52) - 1)] dX12_reply_20 ck_isIn ci_isIn (rt_isIn _ _ _) rfl rfl (Nat.le_of_ble_eq_true rfl) (Nat.le_of_ble_eq_true rfl) (Nat.le_of_ble_eq_true rfl) h (fun v1 h => ?_)
    refine Go.if_eq 35 dX12_reply_23 (by decide) h (fun h => ?_) (fun h => ?_)
    · refine Go.iconst (-1) dX12_reply_35 (by decide) ?_
      cases h
      exact Go.iret dX12_reply_36 rfl
    · refine Go.aload_n 0 dX12_reply_26 rfl ?_
      refine GM.geta 51 29 (by decide) rfl fl_replies rfl dX12_reply_27 ?_
      refine Go.iload_n 1 dX12_reply_30 rfl ?_
      refine GM.iald 29 (by decide) rfl dX12_reply_31 h (fun v2 h => ?_)
      refine Go.goto 36 dX12_reply_32 (by decide) ?_
      cases h
      exact Go.iret dX12_reply_36 rfl
  · refine Go.aload_n 0 dX12_reply_5 rfl ?_
    refine GM.geti 52 (by decide) rfl fl_replied rfl dX12_reply_6 ?_
    refine Go.goto 36 dX12_reply_9 (by decide) ?_
    cases h
    exact Go.iret dX12_reply_36 rfl
set_option maxRecDepth 20000 in
theorem rt_reply {l : Launch} {κ : KMt} {S : MS} (x1 : Int32) : ∀ Z, r_reply S x1 = some Z → MtM l κ yX12_reply cX12_reply 2 (some .int) 1 22 [.ref κ.o, .int x1] S (some (.int Z)) S := fun Z h => MtM.of (by decide +kernel) rfl (Nat.le_of_ble_eq_true rfl) ⟨rfl, rfl, trivial⟩ (rs_reply x1 h)
/-! image -/
def r_image (S : MS)  : Option (Int32 × MS) := (r_copy S 0 1).bind (fun S1 => (r_things S1 ).bind (fun v2 => some (v2, S1)))
set_option maxRecDepth 20000 in
theorem rs_image {l : Launch} {κ : KMt} {S : MS} {Z : Int32 × MS}  (h : r_image S  = some Z) : Go l (EM κ) RX12 cX12_image 1 (some .int) 3 65 0 0 (some (.int Z.1)) Z.2 0 [(0, .ref κ.o)] [] S := by
  unfold r_image at h
  refine Go.aload_n 0 dX12_image_0 rfl ?_
  refine GM.geta 0 0 (by decide) rfl fl_a rfl dX12_image_1 ?_
  refine Go.aload_n 0 dX12_image_4 rfl ?_
  refine GM.geta 1 1 (by decide) rfl fl_image rfl dX12_image_5 ?_
  refine GM.callsu (rest := []) [.ref (κ.o + 1 + 0), .ref (κ.o + 1 + 1)] dX12_image_8 ck_copy ci_copy (rt_copy _ _) rfl rfl (Nat.le_of_ble_eq_true rfl) (Nat.le_of_ble_eq_true rfl) (Nat.le_of_ble_eq_true rfl) h (fun S1 h => ?_)
  refine Go.aload_n 0 dX12_image_11 rfl ?_
  refine GM.callvr (rest := []) [] dX12_image_12 ck_things ci_things (rt_things ) rfl rfl (Nat.le_of_ble_eq_true rfl) (Nat.le_of_ble_eq_true rfl) (Nat.le_of_ble_eq_true rfl) h (fun v2 h => ?_)
  cases h
  exact Go.iret dX12_image_15 rfl
set_option maxRecDepth 20000 in
theorem rt_image {l : Launch} {κ : KMt} {S : MS}  : ∀ Z, r_image S  = some Z → MtM l κ yX12_image cX12_image 1 (some .int) 3 65 [.ref κ.o] S (some (.int Z.1)) Z.2 := fun Z h => MtM.of (by decide +kernel) rfl (Nat.le_of_ble_eq_true rfl) ⟨rfl, trivial⟩ (rs_image  h)
/-! back -/
def r_back (S : MS)  : Option (Int32 × MS) := (r_copy S 1 0).bind (fun S1 => (r_things S1 ).bind (fun v2 => some (v2, S1)))
set_option maxRecDepth 20000 in
theorem rs_back {l : Launch} {κ : KMt} {S : MS} {Z : Int32 × MS}  (h : r_back S  = some Z) : Go l (EM κ) RX12 cX12_back 1 (some .int) 3 65 0 0 (some (.int Z.1)) Z.2 0 [(0, .ref κ.o)] [] S := by
  unfold r_back at h
  refine Go.aload_n 0 dX12_back_0 rfl ?_
  refine GM.geta 1 1 (by decide) rfl fl_image rfl dX12_back_1 ?_
  refine Go.aload_n 0 dX12_back_4 rfl ?_
  refine GM.geta 0 0 (by decide) rfl fl_a rfl dX12_back_5 ?_
  refine GM.callsu (rest := []) [.ref (κ.o + 1 + 1), .ref (κ.o + 1 + 0)] dX12_back_8 ck_copy ci_copy (rt_copy _ _) rfl rfl (Nat.le_of_ble_eq_true rfl) (Nat.le_of_ble_eq_true rfl) (Nat.le_of_ble_eq_true rfl) h (fun S1 h => ?_)
  refine Go.aload_n 0 dX12_back_11 rfl ?_
  refine GM.callvr (rest := []) [] dX12_back_12 ck_things ci_things (rt_things ) rfl rfl (Nat.le_of_ble_eq_true rfl) (Nat.le_of_ble_eq_true rfl) (Nat.le_of_ble_eq_true rfl) h (fun v2 h => ?_)
  cases h
  exact Go.iret dX12_back_15 rfl
set_option maxRecDepth 20000 in
theorem rt_back {l : Launch} {κ : KMt} {S : MS}  : ∀ Z, r_back S  = some Z → MtM l κ yX12_back cX12_back 1 (some .int) 3 65 [.ref κ.o] S (some (.int Z.1)) Z.2 := fun Z h => MtM.of (by decide +kernel) rfl (Nat.le_of_ble_eq_true rfl) ⟨rfl, trivial⟩ (rs_back  h)
/-! steps -/
def r_steps (S : MS)  : Option (Int32) := (rd S 0 0).bind (fun v1 => some v1)
set_option maxRecDepth 20000 in
theorem rs_steps {l : Launch} {κ : KMt} {S : MS} {Z : Int32}  (h : r_steps S  = some Z) : Go l (EM κ) RX12 cX12_steps 1 (some .int) 0 0 0 0 (some (.int Z)) S 0 [(0, .ref κ.o)] [] S := by
  unfold r_steps at h
  refine Go.aload_n 0 dX12_steps_0 rfl ?_
  refine GM.geta 0 0 (by decide) rfl fl_a rfl dX12_steps_1 ?_
  refine Go.iconst 0 dX12_steps_4 (by decide) ?_
  refine GM.iald 0 (by decide) rfl dX12_steps_5 h (fun v1 h => ?_)
  cases h
  exact Go.iret dX12_steps_6 rfl
set_option maxRecDepth 20000 in
theorem rt_steps {l : Launch} {κ : KMt} {S : MS}  : ∀ Z, r_steps S  = some Z → MtM l κ yX12_steps cX12_steps 1 (some .int) 0 0 [.ref κ.o] S (some (.int Z)) S := fun Z h => MtM.of (by decide +kernel) rfl (Nat.le_of_ble_eq_true rfl) ⟨rfl, trivial⟩ (rs_steps  h)
