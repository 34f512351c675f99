/-! X0_reads -/
def kX0_reads_20 (σ : Hp)  : Nat → Nat → Nat → Int32 → Option (Int32)
  | 0, _, _, _ => none
  | n + 1, x0, x1, x2 => (sln x1).bind (fun v1 => if v1 ≤ x2 then zb 1 else (gfr σ 10 0 x0).bind (fun v2 => (gfi σ 10 8 x0).bind (fun v3 => (ald σ 1 v2 (v3 + x2)).bind (fun v4 => (sat x1 x2).bind (fun v5 => if v4 = v5 then kX0_reads_20 σ n x0 x1 (x2 + 1) else zb 0)))))
def kX0_reads (σ : Hp) (x0 : Nat) (x1 : Nat) : Option (Int32) := (gfi σ 10 9 x0).bind (fun v6 => (gfi σ 10 8 x0).bind (fun v7 => (sln x1).bind (fun v8 => if (v6 - v7) = v8 then kX0_reads_20 σ FU x0 x1 0 else zb 0)))
set_option maxRecDepth 20000 in
theorem ksX0_reads_20 {l : Launch} {G : Gt} {n0 u0 : Nat} {σ : Hp} {Z : Int32} (n : Nat) : ∀ (x0 : Nat) (x1 : Nat) (x2 : Int32), kX0_reads_20 σ n x0 x1 x2 = some Z → GoC l G RX0 "reads" cX0_reads 3 (some .boolean) 4 85 n0 u0 (some (.int Z)) σ 20 [(0, G.rv x0), (1, .ref (G.adK x1)), (2, .int x2)] [] σ := by
  induction n with
  | zero => intro x0 x1 x2 h; rw [kX0_reads_20] at h; cases h
  | succ n ih =>
    intro x0 x1 x2 h
    rw [kX0_reads_20] at h
    refine GoC.iload_n 2 dX0_reads_20 rfl ?_
    refine GoC.aload_n 1 dX0_reads_21 rfl ?_
    obtain ⟨v1, hq, h⟩ := Option.bind_eq_some_iff.mp h
    obtain ⟨hj, hM⟩ := ktJ0_length_8abf5 (l := l) (G := G) (σ := σ) _ _ hq
    refine GC.callS (rest := [.int x2]) hj rfl [] dX0_reads_22 ss_len si_len.1 si_len.2 hM rfl rfl (Nat.le_of_ble_eq_true rfl) (Nat.le_of_ble_eq_true rfl) ⟨rfl, trivial⟩ (Nat.le_of_ble_eq_true rfl) ?_
    refine GoC.icmp_ge 55 dX0_reads_25 (by decide) h (fun h => ?_) (fun h => ?_)
    · refine GoC.iconst 1 dX0_reads_55 (by decide) ?_
      exact GoC.zret dX0_reads_56 rfl h
    · refine GC.aload_n 0 dX0_reads_28 rfl ?_
      refine GC.getr 0 0 rfl (by decide) (by decide) fw_X0_9 (Or.inl rfl) dX0_reads_29 h (fun v2 h => ?_)
      refine GC.aload_n 0 dX0_reads_32 rfl ?_
      refine GC.geti 0 8 rfl (by decide) (by decide) fw_X0_47 (Or.inl rfl) dX0_reads_33 h (fun v3 h => ?_)
      refine GoC.iload_n 2 dX0_reads_36 rfl ?_
      refine GoC.iadd dX0_reads_37 ?_
      refine GC.iald dX0_reads_38 h (fun v4 h => ?_)
      refine GoC.aload_n 1 dX0_reads_39 rfl ?_
      refine GoC.iload_n 2 dX0_reads_40 rfl ?_
      obtain ⟨v5, hq, h⟩ := Option.bind_eq_some_iff.mp h
      obtain ⟨hj, hM⟩ := ktJ0_charAt_5068e (l := l) (G := G) (σ := σ) _ _ _ hq
      refine GC.callS (rest := [.int v4]) hj rfl [.int x2] dX0_reads_41 ss_char si_char.1 si_char.2 hM rfl rfl (Nat.le_of_ble_eq_true rfl) (Nat.le_of_ble_eq_true rfl) ⟨rfl, trivial⟩ (Nat.le_of_ble_eq_true rfl) ?_
      refine GoC.icmp_eq 49 dX0_reads_44 (by decide) h (fun h => ?_) (fun h => ?_)
      · refine GoC.iinc (w := 1) 2 [(0, G.rv x0), (1, .ref (G.adK x1)), (2, .int (x2 + 1))] dX0_reads_49 rfl (by decide) (by decide) rfl ?_
        refine GoC.goto 20 dX0_reads_52 (by decide) ?_
        exact ih _ _ _ h
      · refine GoC.iconst 0 dX0_reads_47 (by decide) ?_
        exact GoC.zret dX0_reads_48 rfl h
set_option maxRecDepth 20000 in
theorem ksX0_reads {l : Launch} {G : Gt} {n0 u0 : Nat} {σ : Hp} {Z : Int32} (x0 : Nat) (x1 : Nat) (h : kX0_reads σ x0 x1 = some Z) : GoC l G RX0 "reads" cX0_reads 3 (some .boolean) 4 85 n0 u0 (some (.int Z)) σ 0 [(0, G.rv x0), (1, .ref (G.adK x1))] [] σ := by
  unfold kX0_reads at h
  refine GC.aload_n 0 dX0_reads_0 rfl ?_
  refine GC.geti 0 9 rfl (by decide) (by decide) fw_X0_34 (Or.inl rfl) dX0_reads_1 h (fun v6 h => ?_)
  refine GC.aload_n 0 dX0_reads_4 rfl ?_
  refine GC.geti 0 8 rfl (by decide) (by decide) fw_X0_47 (Or.inl rfl) dX0_reads_5 h (fun v7 h => ?_)
  refine GoC.isub dX0_reads_8 ?_
  refine GoC.aload_n 1 dX0_reads_9 rfl ?_
  obtain ⟨v8, hq, h⟩ := Option.bind_eq_some_iff.mp h
  obtain ⟨hj, hM⟩ := ktJ0_length_8abf5 (l := l) (G := G) (σ := σ) _ _ hq
  refine GC.callS (rest := [.int (v6 - v7)]) hj rfl [] dX0_reads_10 ss_len si_len.1 si_len.2 hM rfl rfl (Nat.le_of_ble_eq_true rfl) (Nat.le_of_ble_eq_true rfl) ⟨rfl, trivial⟩ (Nat.le_of_ble_eq_true rfl) ?_
  refine GoC.icmp_eq 18 dX0_reads_13 (by decide) h (fun h => ?_) (fun h => ?_)
  · refine GoC.iconst 0 dX0_reads_18 (by decide) ?_
    refine GoC.istore_n [(0, G.rv x0), (1, .ref (G.adK x1)), (2, .int 0)] dX0_reads_19 (by decide) rfl ?_
    exact ksX0_reads_20 _ _ _ _ h
  · refine GoC.iconst 0 dX0_reads_16 (by decide) ?_
    exact GoC.zret dX0_reads_17 rfl h
set_option maxRecDepth 20000 in
theorem ktX0_reads {l : Launch} {G : Gt} {σ : Hp} (x0 : Nat) (x1 : Nat) : ∀ Z, kX0_reads σ x0 x1 = some Z → MtC l G yX0_reads cX0_reads 3 (some .boolean) 4 85 [G.rv x0, .ref (G.adK x1)] σ (some (.int Z)) σ := fun Z h => MtC.at (by decide +kernel) ⟨G.rv_cat _, rfl, trivial⟩ (Nat.le_of_ble_eq_true rfl) (ksX0_reads x0 x1 h)
/-! X0_commandNamed -/
def kX0_commandNamed (σ : Hp) (x0 : Nat) : Option (Int32) := ckd σ x0 10 ((kX0_reads σ x0 0).bind (fun v1 => if v1 = 0 then ckd σ x0 10 ((kX0_reads σ x0 1).bind (fun v2 => if v2 = 0 then ckd σ x0 10 ((kX0_reads σ x0 2).bind (fun v3 => if v3 = 0 then ckd σ x0 10 ((kX0_reads σ x0 3).bind (fun v4 => if v4 = 0 then ckd σ x0 10 ((kX0_reads σ x0 4).bind (fun v5 => if v5 = 0 then ckd σ x0 10 ((kX0_reads σ x0 5).bind (fun v6 => if v6 = 0 then ckd σ x0 10 ((kX0_reads σ x0 6).bind (fun v7 => if v7 = 0 then ckd σ x0 10 ((kX0_reads σ x0 7).bind (fun v8 => if v8 = 0 then some (-1) else some 7)) else some 6)) else some 5)) else some 4)) else some 3)) else some 2)) else some 1)) else some 0))
set_option maxRecDepth 20000 in
theorem ksX0_commandNamed {l : Launch} {G : Gt} {n0 u0 : Nat} {σ : Hp} {Z : Int32} (x0 : Nat) (h : kX0_commandNamed σ x0 = some Z) : GoC l G RX0 "commandNamed" cX0_commandNamed 1 (some .int) 5 107 n0 u0 (some (.int Z)) σ 0 [(0, G.rv x0)] [] σ := by
  unfold kX0_commandNamed at h
  refine GC.aload_n 0 dX0_commandNamed_0 rfl ?_
  refine GC.ldcs 0 (by decide) ⟨rfl, rfl⟩ dX0_commandNamed_1 ?_
  obtain ⟨h0, h⟩ := ckd_some h
  obtain ⟨v1, hq, h⟩ := Option.bind_eq_some_iff.mp h
  refine GC.callvI (rest := []) 0 rfl h0 rfl [.ref (G.adK 0)] dX0_commandNamed_3 kk_X0_65 km_X0_reads.1 km_X0_reads.2 (ktX0_reads _ _ _ hq) rfl rfl (Nat.le_of_ble_eq_true rfl) (Nat.le_of_ble_eq_true rfl) trivial (Nat.le_of_ble_eq_true rfl) ?_
  refine GoC.if_eq 11 dX0_commandNamed_6 (by decide) h (fun h => ?_) (fun h => ?_)
  · refine GC.aload_n 0 dX0_commandNamed_11 rfl ?_
    refine GC.ldcs 1 (by decide) ⟨rfl, rfl⟩ dX0_commandNamed_12 ?_
    obtain ⟨h0, h⟩ := ckd_some h
    obtain ⟨v2, hq, h⟩ := Option.bind_eq_some_iff.mp h
    refine GC.callvI (rest := []) 0 rfl h0 rfl [.ref (G.adK 1)] dX0_commandNamed_14 kk_X0_65 km_X0_reads.1 km_X0_reads.2 (ktX0_reads _ _ _ hq) rfl rfl (Nat.le_of_ble_eq_true rfl) (Nat.le_of_ble_eq_true rfl) trivial (Nat.le_of_ble_eq_true rfl) ?_
    refine GoC.if_eq 22 dX0_commandNamed_17 (by decide) h (fun h => ?_) (fun h => ?_)
    · refine GC.aload_n 0 dX0_commandNamed_22 rfl ?_
      refine GC.ldcs 2 (by decide) ⟨rfl, rfl⟩ dX0_commandNamed_23 ?_
      obtain ⟨h0, h⟩ := ckd_some h
      obtain ⟨v3, hq, h⟩ := Option.bind_eq_some_iff.mp h
      refine GC.callvI (rest := []) 0 rfl h0 rfl [.ref (G.adK 2)] dX0_commandNamed_25 kk_X0_65 km_X0_reads.1 km_X0_reads.2 (ktX0_reads _ _ _ hq) rfl rfl (Nat.le_of_ble_eq_true rfl) (Nat.le_of_ble_eq_true rfl) trivial (Nat.le_of_ble_eq_true rfl) ?_
      refine GoC.if_eq 33 dX0_commandNamed_28 (by decide) h (fun h => ?_) (fun h => ?_)
      · refine GC.aload_n 0 dX0_commandNamed_33 rfl ?_
        refine GC.ldcs 3 (by decide) ⟨rfl, rfl⟩ dX0_commandNamed_34 ?_
        obtain ⟨h0, h⟩ := ckd_some h
        obtain ⟨v4, hq, h⟩ := Option.bind_eq_some_iff.mp h
        refine GC.callvI (rest := []) 0 rfl h0 rfl [.ref (G.adK 3)] dX0_commandNamed_36 kk_X0_65 km_X0_reads.1 km_X0_reads.2 (ktX0_reads _ _ _ hq) rfl rfl (Nat.le_of_ble_eq_true rfl) (Nat.le_of_ble_eq_true rfl) trivial (Nat.le_of_ble_eq_true rfl) ?_
        refine GoC.if_eq 44 dX0_commandNamed_39 (by decide) h (fun h => ?_) (fun h => ?_)
        · refine GC.aload_n 0 dX0_commandNamed_44 rfl ?_
          refine GC.ldcs 4 (by decide) ⟨rfl, rfl⟩ dX0_commandNamed_45 ?_
          obtain ⟨h0, h⟩ := ckd_some h
          obtain ⟨v5, hq, h⟩ := Option.bind_eq_some_iff.mp h
          refine GC.callvI (rest := []) 0 rfl h0 rfl [.ref (G.adK 4)] dX0_commandNamed_47 kk_X0_65 km_X0_reads.1 km_X0_reads.2 (ktX0_reads _ _ _ hq) rfl rfl (Nat.le_of_ble_eq_true rfl) (Nat.le_of_ble_eq_true rfl) trivial (Nat.le_of_ble_eq_true rfl) ?_
          refine GoC.if_eq 55 dX0_commandNamed_50 (by decide) h (fun h => ?_) (fun h => ?_)
          · refine GC.aload_n 0 dX0_commandNamed_55 rfl ?_
            refine GC.ldcs 5 (by decide) ⟨rfl, rfl⟩ dX0_commandNamed_56 ?_
            obtain ⟨h0, h⟩ := ckd_some h
            obtain ⟨v6, hq, h⟩ := Option.bind_eq_some_iff.mp h
            refine GC.callvI (rest := []) 0 rfl h0 rfl [.ref (G.adK 5)] dX0_commandNamed_58 kk_X0_65 km_X0_reads.1 km_X0_reads.2 (ktX0_reads _ _ _ hq) rfl rfl (Nat.le_of_ble_eq_true rfl) (Nat.le_of_ble_eq_true rfl) trivial (Nat.le_of_ble_eq_true rfl) ?_
            refine GoC.if_eq 66 dX0_commandNamed_61 (by decide) h (fun h => ?_) (fun h => ?_)
            · refine GC.aload_n 0 dX0_commandNamed_66 rfl ?_
              refine GC.ldcs 6 (by decide) ⟨rfl, rfl⟩ dX0_commandNamed_67 ?_
              obtain ⟨h0, h⟩ := ckd_some h
              obtain ⟨v7, hq, h⟩ := Option.bind_eq_some_iff.mp h
              refine GC.callvI (rest := []) 0 rfl h0 rfl [.ref (G.adK 6)] dX0_commandNamed_69 kk_X0_65 km_X0_reads.1 km_X0_reads.2 (ktX0_reads _ _ _ hq) rfl rfl (Nat.le_of_ble_eq_true rfl) (Nat.le_of_ble_eq_true rfl) trivial (Nat.le_of_ble_eq_true rfl) ?_
              refine GoC.if_eq 78 dX0_commandNamed_72 (by decide) h (fun h => ?_) (fun h => ?_)
              · refine GC.aload_n 0 dX0_commandNamed_78 rfl ?_
                refine GC.ldcs 7 (by decide) ⟨rfl, rfl⟩ dX0_commandNamed_79 ?_
                obtain ⟨h0, h⟩ := ckd_some h
                obtain ⟨v8, hq, h⟩ := Option.bind_eq_some_iff.mp h
                refine GC.callvI (rest := []) 0 rfl h0 rfl [.ref (G.adK 7)] dX0_commandNamed_81 kk_X0_65 km_X0_reads.1 km_X0_reads.2 (ktX0_reads _ _ _ hq) rfl rfl (Nat.le_of_ble_eq_true rfl) (Nat.le_of_ble_eq_true rfl) trivial (Nat.le_of_ble_eq_true rfl) ?_
                refine GoC.if_eq 92 dX0_commandNamed_84 (by decide) h (fun h => ?_) (fun h => ?_)
                · refine GoC.iconst (-1) dX0_commandNamed_92 (by decide) ?_
                  cases h
                  exact GoC.iret dX0_commandNamed_93 rfl
                · refine GoC.bipush 7 dX0_commandNamed_87 (by decide) ?_
                  refine GoC.goto 93 dX0_commandNamed_89 (by decide) ?_
                  cases h
                  exact GoC.iret dX0_commandNamed_93 rfl
              · refine GoC.bipush 6 dX0_commandNamed_75 (by decide) ?_
                cases h
                exact GoC.iret dX0_commandNamed_77 rfl
            · refine GoC.iconst 5 dX0_commandNamed_64 (by decide) ?_
              cases h
              exact GoC.iret dX0_commandNamed_65 rfl
          · refine GoC.iconst 4 dX0_commandNamed_53 (by decide) ?_
            cases h
            exact GoC.iret dX0_commandNamed_54 rfl
        · refine GoC.iconst 3 dX0_commandNamed_42 (by decide) ?_
          cases h
          exact GoC.iret dX0_commandNamed_43 rfl
      · refine GoC.iconst 2 dX0_commandNamed_31 (by decide) ?_
        cases h
        exact GoC.iret dX0_commandNamed_32 rfl
    · refine GoC.iconst 1 dX0_commandNamed_20 (by decide) ?_
      cases h
      exact GoC.iret dX0_commandNamed_21 rfl
  · refine GoC.iconst 0 dX0_commandNamed_9 (by decide) ?_
    cases h
    exact GoC.iret dX0_commandNamed_10 rfl
set_option maxRecDepth 20000 in
theorem ktX0_commandNamed {l : Launch} {G : Gt} {σ : Hp} (x0 : Nat) : ∀ Z, kX0_commandNamed σ x0 = some Z → MtC l G yX0_commandNamed cX0_commandNamed 1 (some .int) 5 107 [G.rv x0] σ (some (.int Z)) σ := fun Z h => MtC.at (by decide +kernel) ⟨G.rv_cat _, trivial⟩ (Nat.le_of_ble_eq_true rfl) (ksX0_commandNamed x0 h)
/-! X0_measureNamed -/
def kX0_measureNamed (σ : Hp) (x0 : Nat) : Option (Int32) := ckd σ x0 10 ((kX0_reads σ x0 8).bind (fun v1 => if v1 = 0 then ckd σ x0 10 ((kX0_reads σ x0 9).bind (fun v2 => if v2 = 0 then ckd σ x0 10 ((kX0_reads σ x0 10).bind (fun v3 => if v3 = 0 then ckd σ x0 10 ((kX0_reads σ x0 11).bind (fun v4 => if v4 = 0 then some (-1) else some 3)) else some 2)) else some 1)) else some 0))
set_option maxRecDepth 20000 in
theorem ksX0_measureNamed {l : Launch} {G : Gt} {n0 u0 : Nat} {σ : Hp} {Z : Int32} (x0 : Nat) (h : kX0_measureNamed σ x0 = some Z) : GoC l G RX0 "measureNamed" cX0_measureNamed 1 (some .int) 5 107 n0 u0 (some (.int Z)) σ 0 [(0, G.rv x0)] [] σ := by
  unfold kX0_measureNamed at h
  refine GC.aload_n 0 dX0_measureNamed_0 rfl ?_
  refine GC.ldcs 8 (by decide) ⟨rfl, rfl⟩ dX0_measureNamed_1 ?_
  obtain ⟨h0, h⟩ := ckd_some h
  obtain ⟨v1, hq, h⟩ := Option.bind_eq_some_iff.mp h
  refine GC.callvI (rest := []) 0 rfl h0 rfl [.ref (G.adK 8)] dX0_measureNamed_3 kk_X0_65 km_X0_reads.1 km_X0_reads.2 (ktX0_reads _ _ _ hq) rfl rfl (Nat.le_of_ble_eq_true rfl) (Nat.le_of_ble_eq_true rfl) trivial (Nat.le_of_ble_eq_true rfl) ?_
  refine GoC.if_eq 11 dX0_measureNamed_6 (by decide) h (fun h => ?_) (fun h => ?_)
  · refine GC.aload_n 0 dX0_measureNamed_11 rfl ?_
    refine GC.ldcs 9 (by decide) ⟨rfl, rfl⟩ dX0_measureNamed_12 ?_
    obtain ⟨h0, h⟩ := ckd_some h
    obtain ⟨v2, hq, h⟩ := Option.bind_eq_some_iff.mp h
    refine GC.callvI (rest := []) 0 rfl h0 rfl [.ref (G.adK 9)] dX0_measureNamed_14 kk_X0_65 km_X0_reads.1 km_X0_reads.2 (ktX0_reads _ _ _ hq) rfl rfl (Nat.le_of_ble_eq_true rfl) (Nat.le_of_ble_eq_true rfl) trivial (Nat.le_of_ble_eq_true rfl) ?_
    refine GoC.if_eq 22 dX0_measureNamed_17 (by decide) h (fun h => ?_) (fun h => ?_)
    · refine GC.aload_n 0 dX0_measureNamed_22 rfl ?_
      refine GC.ldcs 10 (by decide) ⟨rfl, rfl⟩ dX0_measureNamed_23 ?_
      obtain ⟨h0, h⟩ := ckd_some h
      obtain ⟨v3, hq, h⟩ := Option.bind_eq_some_iff.mp h
      refine GC.callvI (rest := []) 0 rfl h0 rfl [.ref (G.adK 10)] dX0_measureNamed_25 kk_X0_65 km_X0_reads.1 km_X0_reads.2 (ktX0_reads _ _ _ hq) rfl rfl (Nat.le_of_ble_eq_true rfl) (Nat.le_of_ble_eq_true rfl) trivial (Nat.le_of_ble_eq_true rfl) ?_
      refine GoC.if_eq 33 dX0_measureNamed_28 (by decide) h (fun h => ?_) (fun h => ?_)
      · refine GC.aload_n 0 dX0_measureNamed_33 rfl ?_
        refine GC.ldcs 11 (by decide) ⟨rfl, rfl⟩ dX0_measureNamed_34 ?_
        obtain ⟨h0, h⟩ := ckd_some h
        obtain ⟨v4, hq, h⟩ := Option.bind_eq_some_iff.mp h
        refine GC.callvI (rest := []) 0 rfl h0 rfl [.ref (G.adK 11)] dX0_measureNamed_36 kk_X0_65 km_X0_reads.1 km_X0_reads.2 (ktX0_reads _ _ _ hq) rfl rfl (Nat.le_of_ble_eq_true rfl) (Nat.le_of_ble_eq_true rfl) trivial (Nat.le_of_ble_eq_true rfl) ?_
        refine GoC.if_eq 46 dX0_measureNamed_39 (by decide) h (fun h => ?_) (fun h => ?_)
        · refine GoC.iconst (-1) dX0_measureNamed_46 (by decide) ?_
          cases h
          exact GoC.iret dX0_measureNamed_47 rfl
        · refine GoC.iconst 3 dX0_measureNamed_42 (by decide) ?_
          refine GoC.goto 47 dX0_measureNamed_43 (by decide) ?_
          cases h
          exact GoC.iret dX0_measureNamed_47 rfl
      · refine GoC.iconst 2 dX0_measureNamed_31 (by decide) ?_
        cases h
        exact GoC.iret dX0_measureNamed_32 rfl
    · refine GoC.iconst 1 dX0_measureNamed_20 (by decide) ?_
      cases h
      exact GoC.iret dX0_measureNamed_21 rfl
  · refine GoC.iconst 0 dX0_measureNamed_9 (by decide) ?_
    cases h
    exact GoC.iret dX0_measureNamed_10 rfl
set_option maxRecDepth 20000 in
theorem ktX0_measureNamed {l : Launch} {G : Gt} {σ : Hp} (x0 : Nat) : ∀ Z, kX0_measureNamed σ x0 = some Z → MtC l G yX0_measureNamed cX0_measureNamed 1 (some .int) 5 107 [G.rv x0] σ (some (.int Z)) σ := fun Z h => MtC.at (by decide +kernel) ⟨G.rv_cat _, trivial⟩ (Nat.le_of_ble_eq_true rfl) (ksX0_measureNamed x0 h)
/-! X0_readMeasure -/
def kX0_readMeasure_20  (x0 : Nat) (y0 : Int32) (σ : Hp) : Option (Int32 × Hp) := if y0 = (-1) then (gfi σ 10 8 x0).bind (fun v2 => (pfi σ 10 6 x0 v2).bind (fun σ3 => some (y0, σ3))) else (pfi σ 10 6 x0 (-1)).bind (fun σ1 => some (y0, σ1))
def kX0_readMeasure (σ : Hp) (x0 : Nat) : Option (Int32 × Hp) := ckd σ x0 10 ((kX0_goOn σ x0).bind (fun σ4 => (gfi σ4 10 7 x0).bind (fun v5 => if v5 = 1 then ckd σ4 x0 10 ((kX0_measureNamed σ4 x0).bind (fun v6 => kX0_readMeasure_20 x0 v6 σ4)) else kX0_readMeasure_20 x0 (-1) σ4)))
set_option maxRecDepth 20000 in
theorem ksX0_readMeasure_20 {l : Launch} {G : Gt} {n0 u0 : Nat} {Z : Int32 × Hp} (x0 : Nat) (y0 : Int32) (σ : Hp) (h : kX0_readMeasure_20 x0 y0 σ = some Z) : GoC l G RX0 "readMeasure" cX0_readMeasure 2 (some .int) 6 127 n0 u0 (some (.int Z.1)) Z.2 20 [(0, G.rv x0)] [.int y0] σ := by
  unfold kX0_readMeasure_20 at h
  refine GoC.istore_n [(0, G.rv x0), (1, .int y0)] dX0_readMeasure_20 (by decide) rfl ?_
  refine GC.aload_n 0 dX0_readMeasure_21 rfl ?_
  refine GoC.iload_n 1 dX0_readMeasure_22 rfl ?_
  refine GoC.iconst (-1) dX0_readMeasure_23 (by decide) ?_
  refine GoC.icmp_ne 34 dX0_readMeasure_24 (by decide) h (fun h => ?_) (fun h => ?_)
  · refine GoC.iconst (-1) dX0_readMeasure_34 (by decide) ?_
    refine GC.puti 0 6 rfl (by decide) (by decide) (rfl) fw_X0_24 (Or.inl rfl) (Or.inl rfl) dX0_readMeasure_35 h (fun σ1 h => ?_)
    refine GoC.iload_n 1 dX0_readMeasure_38 rfl ?_
    cases h
    exact GoC.iret dX0_readMeasure_39 rfl
  · refine GC.aload_n 0 dX0_readMeasure_27 rfl ?_
    refine GC.geti 0 8 rfl (by decide) (by decide) fw_X0_47 (Or.inl rfl) dX0_readMeasure_28 h (fun v2 h => ?_)
    refine GoC.goto 35 dX0_readMeasure_31 (by decide) ?_
    refine GC.puti 0 6 rfl (by decide) (by decide) (rfl) fw_X0_24 (Or.inl rfl) (Or.inl rfl) dX0_readMeasure_35 h (fun σ3 h => ?_)
    refine GoC.iload_n 1 dX0_readMeasure_38 rfl ?_
    cases h
    exact GoC.iret dX0_readMeasure_39 rfl
set_option maxRecDepth 20000 in
theorem ksX0_readMeasure {l : Launch} {G : Gt} {n0 u0 : Nat} {σ : Hp} {Z : Int32 × Hp} (x0 : Nat) (h : kX0_readMeasure σ x0 = some Z) : GoC l G RX0 "readMeasure" cX0_readMeasure 2 (some .int) 6 127 n0 u0 (some (.int Z.1)) Z.2 0 [(0, G.rv x0)] [] σ := by
  unfold kX0_readMeasure at h
  refine GC.aload_n 0 dX0_readMeasure_0 rfl ?_
  obtain ⟨h0, h⟩ := ckd_some h
  obtain ⟨σ4, hq, h⟩ := Option.bind_eq_some_iff.mp h
  refine GC.callvV (rest := []) 0 rfl h0 rfl [] dX0_readMeasure_1 kk_X0_41 km_X0_goOn.1 km_X0_goOn.2 (ktX0_goOn _ _ hq) rfl rfl (Nat.le_of_ble_eq_true rfl) (Nat.le_of_ble_eq_true rfl) trivial (Nat.le_of_ble_eq_true rfl) ?_
  refine GC.aload_n 0 dX0_readMeasure_4 rfl ?_
  refine GC.geti 0 7 rfl (by decide) (by decide) fw_X0_44 (Or.inl rfl) dX0_readMeasure_5 h (fun v5 h => ?_)
  refine GoC.iconst 1 dX0_readMeasure_8 (by decide) ?_
  refine GoC.icmp_ne 19 dX0_readMeasure_9 (by decide) h (fun h => ?_) (fun h => ?_)
  · refine GoC.iconst (-1) dX0_readMeasure_19 (by decide) ?_
    exact ksX0_readMeasure_20 _ _ _ h
  · refine GC.aload_n 0 dX0_readMeasure_12 rfl ?_
    obtain ⟨h0, h⟩ := ckd_some h
    obtain ⟨v6, hq, h⟩ := Option.bind_eq_some_iff.mp h
    refine GC.callvI (rest := []) 0 rfl h0 rfl [] dX0_readMeasure_13 kk_X0_99 km_X0_measureNamed.1 km_X0_measureNamed.2 (ktX0_measureNamed _ _ hq) rfl rfl (Nat.le_of_ble_eq_true rfl) (Nat.le_of_ble_eq_true rfl) trivial (Nat.le_of_ble_eq_true rfl) ?_
    refine GoC.goto 20 dX0_readMeasure_16 (by decide) ?_
    exact ksX0_readMeasure_20 _ _ _ h
set_option maxRecDepth 20000 in
theorem ktX0_readMeasure {l : Launch} {G : Gt} {σ : Hp} (x0 : Nat) : ∀ Z, kX0_readMeasure σ x0 = some Z → MtC l G yX0_readMeasure cX0_readMeasure 2 (some .int) 6 127 [G.rv x0] σ (some (.int Z.1)) Z.2 := fun Z h => MtC.at (by decide +kernel) ⟨G.rv_cat _, trivial⟩ (Nat.le_of_ble_eq_true rfl) (ksX0_readMeasure x0 h)
/-! X0_readCommand -/
def kX0_readCommand_93  (x0 : Nat) (x1 : Int32) (σ : Hp) : Option (Hp) := (gfr σ 10 3 x0).bind (fun v1 => ckd σ x0 10 (bd2 (kX0_readWord σ x0) (fun v2 σ3 => (ast σ3 1 v1 x1 v2).bind (fun σ4 => (gfr σ4 10 4 x0).bind (fun v5 => ckd σ4 x0 10 (bd2 (kX0_readNumber σ4 x0) (fun v6 σ7 => (ast σ7 1 v5 x1 v6).bind (fun σ8 => some σ8))))))))
def kX0_readCommand_80  (x0 : Nat) (x1 : Int32) (σ : Hp) : Option (Hp) := (gfr σ 10 3 x0).bind (fun v9 => ckd σ x0 10 (bd2 (kX0_readWord σ x0) (fun v10 σ11 => (ast σ11 1 v9 x1 v10).bind (fun σ12 => some σ12))))
def kX0_readCommand_25  (x0 : Nat) (x1 : Int32) (y0 : Nat) (y1 : Int32) (y2 : Int32) (σ : Hp) : Option (Hp) := (ast σ 1 y0 y1 y2).bind (fun σ13 => (gfr σ13 10 2 x0).bind (fun v14 => (ald σ13 1 v14 x1).bind (fun v15 => if v15 = 0 then kX0_readCommand_80 x0 x1 σ13 else if v15 = 1 then kX0_readCommand_80 x0 x1 σ13 else if v15 = 2 then kX0_readCommand_93 x0 x1 σ13 else if v15 = 3 then kX0_readCommand_93 x0 x1 σ13 else if v15 = 4 then (gfr σ13 10 3 x0).bind (fun v16 => ckd σ13 x0 10 (bd2 (kX0_readMeasure σ13 x0) (fun v17 σ18 => (ast σ18 1 v16 x1 v17).bind (fun σ19 => some σ19)))) else if v15 = 5 then (gfr σ13 10 3 x0).bind (fun v20 => ckd σ13 x0 10 (bd2 (kX0_readNumber σ13 x0) (fun v21 σ22 => (ast σ22 1 v20 x1 v21).bind (fun σ23 => some σ23)))) else if v15 = 6 then (gfr σ13 10 3 x0).bind (fun v24 => ckd σ13 x0 10 (bd2 (kX0_readWord σ13 x0) (fun v25 σ26 => (ast σ26 1 v24 x1 v25).bind (fun σ27 => (gfr σ27 10 4 x0).bind (fun v28 => ckd σ27 x0 10 (bd2 (kX0_readWord σ27 x0) (fun v29 σ30 => (ast σ30 1 v28 x1 v29).bind (fun σ31 => some σ31)))))))) else if v15 = 7 then some σ13 else (gfi σ13 10 8 x0).bind (fun v32 => (pfi σ13 10 6 x0 v32).bind (fun σ33 => some σ33)))))
def kX0_readCommand (σ : Hp) (x0 : Nat) (x1 : Int32) : Option (Hp) := ckd σ x0 10 ((kX0_goOn σ x0).bind (fun σ34 => (gfr σ34 10 2 x0).bind (fun v35 => (gfi σ34 10 7 x0).bind (fun v36 => if v36 = 1 then ckd σ34 x0 10 ((kX0_commandNamed σ34 x0).bind (fun v37 => kX0_readCommand_25 x0 x1 v35 x1 v37 σ34)) else kX0_readCommand_25 x0 x1 v35 x1 (-1) σ34))))
set_option maxRecDepth 20000 in
theorem ksX0_readCommand_93 {l : Launch} {G : Gt} {n0 u0 : Nat} {Z : Hp} (x0 : Nat) (x1 : Int32) (σ : Hp) (h : kX0_readCommand_93 x0 x1 σ = some Z) : GoC l G RX0 "readCommand" cX0_readCommand 2 none 7 148 n0 u0 none Z 93 [(0, G.rv x0), (1, .int x1)] [] σ := by
  unfold kX0_readCommand_93 at h
  refine GC.aload_n 0 dX0_readCommand_93 rfl ?_
  refine GC.getr 0 3 rfl (by decide) (by decide) fw_X0_18 (Or.inl rfl) dX0_readCommand_94 h (fun v1 h => ?_)
  refine GoC.iload_n 1 dX0_readCommand_97 rfl ?_
  refine GC.aload_n 0 dX0_readCommand_98 rfl ?_
  obtain ⟨h0, h⟩ := ckd_some h
  obtain ⟨v2, σ3, hq, h⟩ := bd2_some h
  refine GC.callvI (rest := [.int x1, G.rv v1]) 0 rfl h0 rfl [] dX0_readCommand_99 kk_X0_54 km_X0_readWord.1 km_X0_readWord.2 (ktX0_readWord _ _ hq) rfl rfl (Nat.le_of_ble_eq_true rfl) (Nat.le_of_ble_eq_true rfl) ⟨rfl, G.rv_cat _, trivial⟩ (Nat.le_of_ble_eq_true rfl) ?_
  refine GC.iast dX0_readCommand_102 h (fun σ4 h => ?_)
  refine GC.aload_n 0 dX0_readCommand_103 rfl ?_
  refine GC.getr 0 4 rfl (by decide) (by decide) fw_X0_21 (Or.inl rfl) dX0_readCommand_104 h (fun v5 h => ?_)
  refine GoC.iload_n 1 dX0_readCommand_107 rfl ?_
  refine GC.aload_n 0 dX0_readCommand_108 rfl ?_
  obtain ⟨h0, h⟩ := ckd_some h
  obtain ⟨v6, σ7, hq, h⟩ := bd2_some h
  refine GC.callvI (rest := [.int x1, G.rv v5]) 0 rfl h0 rfl [] dX0_readCommand_109 kk_X0_57 km_X0_readNumber.1 km_X0_readNumber.2 (ktX0_readNumber _ _ hq) rfl rfl (Nat.le_of_ble_eq_true rfl) (Nat.le_of_ble_eq_true rfl) ⟨rfl, G.rv_cat _, trivial⟩ (Nat.le_of_ble_eq_true rfl) ?_
  refine GC.iast dX0_readCommand_112 h (fun σ8 h => ?_)
  refine GoC.goto 176 dX0_readCommand_113 (by decide) ?_
  cases h
  exact GoC.vret dX0_readCommand_176 rfl
set_option maxRecDepth 20000 in
theorem ksX0_readCommand_80 {l : Launch} {G : Gt} {n0 u0 : Nat} {Z : Hp} (x0 : Nat) (x1 : Int32) (σ : Hp) (h : kX0_readCommand_80 x0 x1 σ = some Z) : GoC l G RX0 "readCommand" cX0_readCommand 2 none 7 148 n0 u0 none Z 80 [(0, G.rv x0), (1, .int x1)] [] σ := by
  unfold kX0_readCommand_80 at h
  refine GC.aload_n 0 dX0_readCommand_80 rfl ?_
  refine GC.getr 0 3 rfl (by decide) (by decide) fw_X0_18 (Or.inl rfl) dX0_readCommand_81 h (fun v9 h => ?_)
  refine GoC.iload_n 1 dX0_readCommand_84 rfl ?_
  refine GC.aload_n 0 dX0_readCommand_85 rfl ?_
  obtain ⟨h0, h⟩ := ckd_some h
  obtain ⟨v10, σ11, hq, h⟩ := bd2_some h
  refine GC.callvI (rest := [.int x1, G.rv v9]) 0 rfl h0 rfl [] dX0_readCommand_86 kk_X0_54 km_X0_readWord.1 km_X0_readWord.2 (ktX0_readWord _ _ hq) rfl rfl (Nat.le_of_ble_eq_true rfl) (Nat.le_of_ble_eq_true rfl) ⟨rfl, G.rv_cat _, trivial⟩ (Nat.le_of_ble_eq_true rfl) ?_
  refine GC.iast dX0_readCommand_89 h (fun σ12 h => ?_)
  refine GoC.goto 176 dX0_readCommand_90 (by decide) ?_
  cases h
  exact GoC.vret dX0_readCommand_176 rfl
set_option maxRecDepth 20000 in
theorem ksX0_readCommand_25 {l : Launch} {G : Gt} {n0 u0 : Nat} {Z : Hp} (x0 : Nat) (x1 : Int32) (y0 : Nat) (y1 : Int32) (y2 : Int32) (σ : Hp) (h : kX0_readCommand_25 x0 x1 y0 y1 y2 σ = some Z) : GoC l G RX0 "readCommand" cX0_readCommand 2 none 7 148 n0 u0 none Z 25 [(0, G.rv x0), (1, .int x1)] [.int y2, .int y1, G.rv y0] σ := by
  unfold kX0_readCommand_25 at h
  refine GC.iast dX0_readCommand_25 h (fun σ13 h => ?_)
  refine GC.aload_n 0 dX0_readCommand_26 rfl ?_
  refine GC.getr 0 2 rfl (by decide) (by decide) fw_X0_15 (Or.inl rfl) dX0_readCommand_27 h (fun v14 h => ?_)
  refine GoC.iload_n 1 dX0_readCommand_30 rfl ?_
  refine GC.iald dX0_readCommand_31 h (fun v15 h => ?_)
  by_cases cc0 : v15 = 0
  · rw [if_pos cc0] at h
    refine GoC.tabIn 80 0 cc0 dX0_readCommand_32 (by decide) (by decide) rfl (by decide) ?_
    exact ksX0_readCommand_80 _ _ _ h
  rw [if_neg cc0] at h
  by_cases cc1 : v15 = 1
  · rw [if_pos cc1] at h
    refine GoC.tabIn 80 1 cc1 dX0_readCommand_32 (by decide) (by decide) rfl (by decide) ?_
    exact ksX0_readCommand_80 _ _ _ h
  rw [if_neg cc1] at h
  by_cases cc2 : v15 = 2
  · rw [if_pos cc2] at h
    refine GoC.tabIn 93 2 cc2 dX0_readCommand_32 (by decide) (by decide) rfl (by decide) ?_
    exact ksX0_readCommand_93 _ _ _ h
  rw [if_neg cc2] at h
  by_cases cc3 : v15 = 3
  · rw [if_pos cc3] at h
    refine GoC.tabIn 93 3 cc3 dX0_readCommand_32 (by decide) (by decide) rfl (by decide) ?_
    exact ksX0_readCommand_93 _ _ _ h
  rw [if_neg cc3] at h
  by_cases cc4 : v15 = 4
  · rw [if_pos cc4] at h
    refine GoC.tabIn 116 4 cc4 dX0_readCommand_32 (by decide) (by decide) rfl (by decide) ?_
    refine GC.aload_n 0 dX0_readCommand_116 rfl ?_
    refine GC.getr 0 3 rfl (by decide) (by decide) fw_X0_18 (Or.inl rfl) dX0_readCommand_117 h (fun v16 h => ?_)
    refine GoC.iload_n 1 dX0_readCommand_120 rfl ?_
    refine GC.aload_n 0 dX0_readCommand_121 rfl ?_
    obtain ⟨h0, h⟩ := ckd_some h
    obtain ⟨v17, σ18, hq, h⟩ := bd2_some h
    refine GC.callvI (rest := [.int x1, G.rv v16]) 0 rfl h0 rfl [] dX0_readCommand_122 kk_X0_60 km_X0_readMeasure.1 km_X0_readMeasure.2 (ktX0_readMeasure _ _ hq) rfl rfl (Nat.le_of_ble_eq_true rfl) (Nat.le_of_ble_eq_true rfl) ⟨rfl, G.rv_cat _, trivial⟩ (Nat.le_of_ble_eq_true rfl) ?_
    refine GC.iast dX0_readCommand_125 h (fun σ19 h => ?_)
    refine GoC.goto 176 dX0_readCommand_126 (by decide) ?_
    cases h
    exact GoC.vret dX0_readCommand_176 rfl
  rw [if_neg cc4] at h
  by_cases cc5 : v15 = 5
  · rw [if_pos cc5] at h
    refine GoC.tabIn 129 5 cc5 dX0_readCommand_32 (by decide) (by decide) rfl (by decide) ?_
    refine GC.aload_n 0 dX0_readCommand_129 rfl ?_
    refine GC.getr 0 3 rfl (by decide) (by decide) fw_X0_18 (Or.inl rfl) dX0_readCommand_130 h (fun v20 h => ?_)
    refine GoC.iload_n 1 dX0_readCommand_133 rfl ?_
    refine GC.aload_n 0 dX0_readCommand_134 rfl ?_
    obtain ⟨h0, h⟩ := ckd_some h
    obtain ⟨v21, σ22, hq, h⟩ := bd2_some h
    refine GC.callvI (rest := [.int x1, G.rv v20]) 0 rfl h0 rfl [] dX0_readCommand_135 kk_X0_57 km_X0_readNumber.1 km_X0_readNumber.2 (ktX0_readNumber _ _ hq) rfl rfl (Nat.le_of_ble_eq_true rfl) (Nat.le_of_ble_eq_true rfl) ⟨rfl, G.rv_cat _, trivial⟩ (Nat.le_of_ble_eq_true rfl) ?_
    refine GC.iast dX0_readCommand_138 h (fun σ23 h => ?_)
    refine GoC.goto 176 dX0_readCommand_139 (by decide) ?_
    cases h
    exact GoC.vret dX0_readCommand_176 rfl
  rw [if_neg cc5] at h
  by_cases cc6 : v15 = 6
  · rw [if_pos cc6] at h
    refine GoC.tabIn 142 6 cc6 dX0_readCommand_32 (by decide) (by decide) rfl (by decide) ?_
    refine GC.aload_n 0 dX0_readCommand_142 rfl ?_
    refine GC.getr 0 3 rfl (by decide) (by decide) fw_X0_18 (Or.inl rfl) dX0_readCommand_143 h (fun v24 h => ?_)
    refine GoC.iload_n 1 dX0_readCommand_146 rfl ?_
    refine GC.aload_n 0 dX0_readCommand_147 rfl ?_
    obtain ⟨h0, h⟩ := ckd_some h
    obtain ⟨v25, σ26, hq, h⟩ := bd2_some h
    refine GC.callvI (rest := [.int x1, G.rv v24]) 0 rfl h0 rfl [] dX0_readCommand_148 kk_X0_54 km_X0_readWord.1 km_X0_readWord.2 (ktX0_readWord _ _ hq) rfl rfl (Nat.le_of_ble_eq_true rfl) (Nat.le_of_ble_eq_true rfl) ⟨rfl, G.rv_cat _, trivial⟩ (Nat.le_of_ble_eq_true rfl) ?_
    refine GC.iast dX0_readCommand_151 h (fun σ27 h => ?_)
    refine GC.aload_n 0 dX0_readCommand_152 rfl ?_
    refine GC.getr 0 4 rfl (by decide) (by decide) fw_X0_21 (Or.inl rfl) dX0_readCommand_153 h (fun v28 h => ?_)
    refine GoC.iload_n 1 dX0_readCommand_156 rfl ?_
    refine GC.aload_n 0 dX0_readCommand_157 rfl ?_
    obtain ⟨h0, h⟩ := ckd_some h
    obtain ⟨v29, σ30, hq, h⟩ := bd2_some h
    refine GC.callvI (rest := [.int x1, G.rv v28]) 0 rfl h0 rfl [] dX0_readCommand_158 kk_X0_54 km_X0_readWord.1 km_X0_readWord.2 (ktX0_readWord _ _ hq) rfl rfl (Nat.le_of_ble_eq_true rfl) (Nat.le_of_ble_eq_true rfl) ⟨rfl, G.rv_cat _, trivial⟩ (Nat.le_of_ble_eq_true rfl) ?_
    refine GC.iast dX0_readCommand_161 h (fun σ31 h => ?_)
    refine GoC.goto 176 dX0_readCommand_162 (by decide) ?_
    cases h
    exact GoC.vret dX0_readCommand_176 rfl
  rw [if_neg cc6] at h
  by_cases cc7 : v15 = 7
  · rw [if_pos cc7] at h
    refine GoC.tabIn 165 7 cc7 dX0_readCommand_32 (by decide) (by decide) rfl (by decide) ?_
    refine GoC.goto 176 dX0_readCommand_165 (by decide) ?_
    cases h
    exact GoC.vret dX0_readCommand_176 rfl
  rw [if_neg cc7] at h
  refine GoC.tabOut 168 dX0_readCommand_32 (sw_out (0) 8 (by decide) (fun k hk => match k, hk with | 0, _ => cc0 | 1, _ => cc1 | 2, _ => cc2 | 3, _ => cc3 | 4, _ => cc4 | 5, _ => cc5 | 6, _ => cc6 | 7, _ => cc7 | (k + 8), hk => absurd hk (by omega)) _ rfl) (by decide) ?_
  refine GC.aload_n 0 dX0_readCommand_168 rfl ?_
  refine GC.aload_n 0 dX0_readCommand_169 rfl ?_
  refine GC.geti 0 8 rfl (by decide) (by decide) fw_X0_47 (Or.inl rfl) dX0_readCommand_170 h (fun v32 h => ?_)
  refine GC.puti 0 6 rfl (by decide) (by decide) (rfl) fw_X0_24 (Or.inl rfl) (Or.inl rfl) dX0_readCommand_173 h (fun σ33 h => ?_)
  cases h
  exact GoC.vret dX0_readCommand_176 rfl
set_option maxRecDepth 20000 in
theorem ksX0_readCommand {l : Launch} {G : Gt} {n0 u0 : Nat} {σ : Hp} {Z : Hp} (x0 : Nat) (x1 : Int32) (h : kX0_readCommand σ x0 x1 = some Z) : GoC l G RX0 "readCommand" cX0_readCommand 2 none 7 148 n0 u0 none Z 0 [(0, G.rv x0), (1, .int x1)] [] σ := by
  unfold kX0_readCommand at h
  refine GC.aload_n 0 dX0_readCommand_0 rfl ?_
  obtain ⟨h0, h⟩ := ckd_some h
  obtain ⟨σ34, hq, h⟩ := Option.bind_eq_some_iff.mp h
  refine GC.callvV (rest := []) 0 rfl h0 rfl [] dX0_readCommand_1 kk_X0_41 km_X0_goOn.1 km_X0_goOn.2 (ktX0_goOn _ _ hq) rfl rfl (Nat.le_of_ble_eq_true rfl) (Nat.le_of_ble_eq_true rfl) trivial (Nat.le_of_ble_eq_true rfl) ?_
  refine GC.aload_n 0 dX0_readCommand_4 rfl ?_
  refine GC.getr 0 2 rfl (by decide) (by decide) fw_X0_15 (Or.inl rfl) dX0_readCommand_5 h (fun v35 h => ?_)
  refine GoC.iload_n 1 dX0_readCommand_8 rfl ?_
  refine GC.aload_n 0 dX0_readCommand_9 rfl ?_
  refine GC.geti 0 7 rfl (by decide) (by decide) fw_X0_44 (Or.inl rfl) dX0_readCommand_10 h (fun v36 h => ?_)
  refine GoC.iconst 1 dX0_readCommand_13 (by decide) ?_
  refine GoC.icmp_ne 24 dX0_readCommand_14 (by decide) h (fun h => ?_) (fun h => ?_)
  · refine GoC.iconst (-1) dX0_readCommand_24 (by decide) ?_
    exact ksX0_readCommand_25 _ _ _ _ _ _ h
  · refine GC.aload_n 0 dX0_readCommand_17 rfl ?_
    obtain ⟨h0, h⟩ := ckd_some h
    obtain ⟨v37, hq, h⟩ := Option.bind_eq_some_iff.mp h
    refine GC.callvI (rest := [.int x1, G.rv v35]) 0 rfl h0 rfl [] dX0_readCommand_18 kk_X0_50 km_X0_commandNamed.1 km_X0_commandNamed.2 (ktX0_commandNamed _ _ hq) rfl rfl (Nat.le_of_ble_eq_true rfl) (Nat.le_of_ble_eq_true rfl) ⟨rfl, G.rv_cat _, trivial⟩ (Nat.le_of_ble_eq_true rfl) ?_
    refine GoC.goto 25 dX0_readCommand_21 (by decide) ?_
    exact ksX0_readCommand_25 _ _ _ _ _ _ h
set_option maxRecDepth 20000 in
theorem ktX0_readCommand {l : Launch} {G : Gt} {σ : Hp} (x0 : Nat) (x1 : Int32) : ∀ Z, kX0_readCommand σ x0 x1 = some Z → MtC l G yX0_readCommand cX0_readCommand 2 none 7 148 [G.rv x0, .int x1] σ none Z := fun Z h => MtC.at (by decide +kernel) ⟨G.rv_cat _, rfl, trivial⟩ (Nat.le_of_ble_eq_true rfl) (ksX0_readCommand x0 x1 h)
/-! X0_read -/
def kX0_read_81  (x0 : Nat) (σ : Hp) : Option (Hp) := (gfi σ 10 8 x0).bind (fun v1 => (pfi σ 10 6 x0 v1).bind (fun σ2 => some σ2))
def kX0_read_17  : Nat → Nat → Int32 → Hp → Option (Hp)
  | 0, _, _, _ => none
  | n + 1, x0, x1, σ => if 75 ≤ x1 then some σ else ckd σ x0 10 ((kX0_readCommand σ x0 x1).bind (fun σ3 => (gfi σ3 10 6 x0).bind (fun v4 => if v4 = (-1) then (gfi σ3 10 5 x0).bind (fun v5 => (pfi σ3 10 5 x0 (v5 + 1)).bind (fun σ6 => ckd σ6 x0 10 ((kX0_goOn σ6 x0).bind (fun σ7 => (gfi σ7 10 7 x0).bind (fun v8 => if v8 = 0 then some σ7 else (gfi σ7 10 7 x0).bind (fun v9 => if v9 = 3 then (gfr σ7 10 0 x0).bind (fun v10 => (gfi σ7 10 8 x0).bind (fun v11 => (ald σ7 1 v10 v11).bind (fun v12 => if v12 = 59 then kX0_read_17 n x0 (x1 + 1) σ7 else kX0_read_81 x0 σ7))) else kX0_read_81 x0 σ7)))))) else some σ3)))
def kX0_read (σ : Hp) (x0 : Nat) : Option (Hp) := (pfi σ 10 5 x0 0).bind (fun σ13 => (pfi σ13 10 6 x0 (-1)).bind (fun σ14 => (pfi σ14 10 9 x0 0).bind (fun σ15 => kX0_read_17 FU x0 0 σ15)))
set_option maxRecDepth 20000 in
theorem ksX0_read_81 {l : Launch} {G : Gt} {n0 u0 : Nat} {Z : Hp} (x0 : Nat) (σ : Hp) (h : kX0_read_81 x0 σ = some Z) : GoC l G RX0 "read" cX0_read 2 none 8 169 n0 u0 none Z 81 [(0, G.rv x0)] [] σ := by
  unfold kX0_read_81 at h
  refine GC.aload_n 0 dX0_read_81 rfl ?_
  refine GC.aload_n 0 dX0_read_82 rfl ?_
  refine GC.geti 0 8 rfl (by decide) (by decide) fw_X0_47 (Or.inl rfl) dX0_read_83 h (fun v1 h => ?_)
  refine GC.puti 0 6 rfl (by decide) (by decide) (rfl) fw_X0_24 (Or.inl rfl) (Or.inl rfl) dX0_read_86 h (fun σ2 h => ?_)
  cases h
  exact GoC.vret dX0_read_89 rfl
set_option maxRecDepth 20000 in
theorem ksX0_read_17 {l : Launch} {G : Gt} {n0 u0 : Nat} {Z : Hp} (n : Nat) : ∀ (x0 : Nat) (x1 : Int32) (σ : Hp), kX0_read_17 n x0 x1 σ = some Z → GoC l G RX0 "read" cX0_read 2 none 8 169 n0 u0 none Z 17 [(0, G.rv x0), (1, .int x1)] [] σ := by
  induction n with
  | zero => intro x0 x1 σ h; rw [kX0_read_17] at h; cases h
  | succ n ih =>
    intro x0 x1 σ h
    rw [kX0_read_17] at h
    refine GoC.iload_n 1 dX0_read_17 rfl ?_
    refine GoC.bipush 75 dX0_read_18 (by decide) ?_
    refine GoC.icmp_ge 96 dX0_read_20 (by decide) h (fun h => ?_) (fun h => ?_)
    · cases h
      exact GoC.vret dX0_read_96 rfl
    · refine GC.aload_n 0 dX0_read_23 rfl ?_
      refine GoC.iload_n 1 dX0_read_24 rfl ?_
      obtain ⟨h0, h⟩ := ckd_some h
      obtain ⟨σ3, hq, h⟩ := Option.bind_eq_some_iff.mp h
      refine GC.callvV (rest := []) 0 rfl h0 rfl [.int x1] dX0_read_25 kk_X0_37 km_X0_readCommand.1 km_X0_readCommand.2 (ktX0_readCommand _ _ _ hq) rfl rfl (Nat.le_of_ble_eq_true rfl) (Nat.le_of_ble_eq_true rfl) trivial (Nat.le_of_ble_eq_true rfl) ?_
      refine GC.aload_n 0 dX0_read_28 rfl ?_
      refine GC.geti 0 6 rfl (by decide) (by decide) fw_X0_24 (Or.inl rfl) dX0_read_29 h (fun v4 h => ?_)
      refine GoC.iconst (-1) dX0_read_32 (by decide) ?_
      refine GoC.icmp_eq 37 dX0_read_33 (by decide) h (fun h => ?_) (fun h => ?_)
      · refine GC.aload_n 0 dX0_read_37 rfl ?_
        refine GoC.dup dX0_read_38 (G.rv_cat _) ?_
        refine GC.geti 0 5 rfl (by decide) (by decide) fw_X0_31 (Or.inl rfl) dX0_read_39 h (fun v5 h => ?_)
        refine GoC.iconst 1 dX0_read_42 (by decide) ?_
        refine GoC.iadd dX0_read_43 ?_
        refine GC.puti 0 5 rfl (by decide) (by decide) (rfl) fw_X0_31 (Or.inl rfl) (Or.inl rfl) dX0_read_44 h (fun σ6 h => ?_)
        refine GC.aload_n 0 dX0_read_47 rfl ?_
        obtain ⟨h0, h⟩ := ckd_some h
        obtain ⟨σ7, hq, h⟩ := Option.bind_eq_some_iff.mp h
        refine GC.callvV (rest := []) 0 rfl h0 rfl [] dX0_read_48 kk_X0_41 km_X0_goOn.1 km_X0_goOn.2 (ktX0_goOn _ _ hq) rfl rfl (Nat.le_of_ble_eq_true rfl) (Nat.le_of_ble_eq_true rfl) trivial (Nat.le_of_ble_eq_true rfl) ?_
        refine GC.aload_n 0 dX0_read_51 rfl ?_
        refine GC.geti 0 7 rfl (by decide) (by decide) fw_X0_44 (Or.inl rfl) dX0_read_52 h (fun v8 h => ?_)
        refine GoC.if_ne 59 dX0_read_55 (by decide) h (fun h => ?_) (fun h => ?_)
        · refine GC.aload_n 0 dX0_read_59 rfl ?_
          refine GC.geti 0 7 rfl (by decide) (by decide) fw_X0_44 (Or.inl rfl) dX0_read_60 h (fun v9 h => ?_)
          refine GoC.iconst 3 dX0_read_63 (by decide) ?_
          refine GoC.icmp_ne 81 dX0_read_64 (by decide) h (fun h => ?_) (fun h => ?_)
          · refine GoC.sub [0] rfl ?_
            exact ksX0_read_81 _ _ h
          · refine GC.aload_n 0 dX0_read_67 rfl ?_
            refine GC.getr 0 0 rfl (by decide) (by decide) fw_X0_9 (Or.inl rfl) dX0_read_68 h (fun v10 h => ?_)
            refine GC.aload_n 0 dX0_read_71 rfl ?_
            refine GC.geti 0 8 rfl (by decide) (by decide) fw_X0_47 (Or.inl rfl) dX0_read_72 h (fun v11 h => ?_)
            refine GC.iald dX0_read_75 h (fun v12 h => ?_)
            refine GoC.bipush 59 dX0_read_76 (by decide) ?_
            refine GoC.icmp_eq 90 dX0_read_78 (by decide) h (fun h => ?_) (fun h => ?_)
            · refine GoC.iinc (w := 1) 1 [(0, G.rv x0), (1, .int (x1 + 1))] dX0_read_90 rfl (by decide) (by decide) rfl ?_
              refine GoC.goto 17 dX0_read_93 (by decide) ?_
              exact ih _ _ _ h
            · refine GoC.sub [0] rfl ?_
              exact ksX0_read_81 _ _ h
        · cases h
          exact GoC.vret dX0_read_58 rfl
      · cases h
        exact GoC.vret dX0_read_36 rfl
set_option maxRecDepth 20000 in
theorem ksX0_read {l : Launch} {G : Gt} {n0 u0 : Nat} {σ : Hp} {Z : Hp} (x0 : Nat) (h : kX0_read σ x0 = some Z) : GoC l G RX0 "read" cX0_read 2 none 8 169 n0 u0 none Z 0 [(0, G.rv x0)] [] σ := by
  unfold kX0_read at h
  refine GC.aload_n 0 dX0_read_0 rfl ?_
  refine GoC.iconst 0 dX0_read_1 (by decide) ?_
  refine GC.puti 0 5 rfl (by decide) (by decide) (rfl) fw_X0_31 (Or.inl rfl) (Or.inl rfl) dX0_read_2 h (fun σ13 h => ?_)
  refine GC.aload_n 0 dX0_read_5 rfl ?_
  refine GoC.iconst (-1) dX0_read_6 (by decide) ?_
  refine GC.puti 0 6 rfl (by decide) (by decide) (rfl) fw_X0_24 (Or.inl rfl) (Or.inl rfl) dX0_read_7 h (fun σ14 h => ?_)
  refine GC.aload_n 0 dX0_read_10 rfl ?_
  refine GoC.iconst 0 dX0_read_11 (by decide) ?_
  refine GC.puti 0 9 rfl (by decide) (by decide) (rfl) fw_X0_34 (Or.inl rfl) (Or.inl rfl) dX0_read_12 h (fun σ15 h => ?_)
  refine GoC.iconst 0 dX0_read_15 (by decide) ?_
  refine GoC.istore_n [(0, G.rv x0), (1, .int 0)] dX0_read_16 (by decide) rfl ?_
  exact ksX0_read_17 _ _ _ _ h
set_option maxRecDepth 20000 in
theorem ktX0_read {l : Launch} {G : Gt} {σ : Hp} (x0 : Nat) : ∀ Z, kX0_read σ x0 = some Z → MtC l G yX0_read cX0_read 2 none 8 169 [G.rv x0] σ none Z := fun Z h => MtC.at (by decide +kernel) ⟨G.rv_cat _, trivial⟩ (Nat.le_of_ble_eq_true rfl) (ksX0_read x0 h)
/-! X11_perform -/
def kX11_perform_73 (k49 : Nat → Int32 → Hp → Option (Int32 × Hp)) (x0 : Nat) (x1 : Int32) (σ : Hp) : Option (Int32 × Hp) := (gfr σ 21 1108 x0).bind (fun v1 => (gfr σ 10 2 v1).bind (fun v2 => (ald σ 1 v2 x1).bind (fun v3 => (gfr σ 21 1108 x0).bind (fun v4 => (gfr σ 10 3 v4).bind (fun v5 => (ald σ 1 v5 x1).bind (fun v6 => (gfr σ 21 1108 x0).bind (fun v7 => (gfr σ 10 4 v7).bind (fun v8 => (ald σ 1 v8 x1).bind (fun v9 => ckd σ x0 21 ((kX11_act σ x0 v3 v6 v9).bind (fun σ10 => k49 x0 (x1 + 1) σ10)))))))))))
def kX11_perform_49  : Nat → Nat → Int32 → Hp → Option (Int32 × Hp)
  | 0, _, _, _ => none
  | n + 1, x0, x1, σ => (gfr σ 21 1108 x0).bind (fun v11 => (gfi σ 10 5 v11).bind (fun v12 => if v12 ≤ x1 then (gfr σ 21 1108 x0).bind (fun v13 => (gfi σ 10 5 v13).bind (fun v14 => some (v14, σ))) else if x1 ≤ 0 then kX11_perform_73 (kX11_perform_49 n) x0 x1 σ else (gfr σ 21 1109 x0).bind (fun v15 => ckd σ v15 15 ((kX5_addByte σ v15 59).bind (fun σ16 => kX11_perform_73 (kX11_perform_49 n) x0 x1 σ16)))))
def kX11_perform (σ : Hp) (x0 : Nat) : Option (Int32 × Hp) := (gfr σ 21 1109 x0).bind (fun v17 => (pfi σ 15 501 v17 0).bind (fun σ18 => (gfr σ18 21 1108 x0).bind (fun v19 => ckd σ18 v19 10 ((kX0_read σ18 v19).bind (fun σ20 => (gfr σ20 21 1108 x0).bind (fun v21 => (pfi σ20 10 1 v21 0).bind (fun σ22 => (gfr σ22 21 1108 x0).bind (fun v23 => (gfi σ22 10 6 v23).bind (fun v24 => if v24 = (-1) then (gfr σ22 21 1107 x0).bind (fun v25 => (gfr σ22 21 1100 x0).bind (fun v26 => ckd σ22 v25 14 ((kX4_keep σ22 v25 v26).bind (fun σ27 => kX11_perform_49 FU x0 0 σ27)))) else some ((-1), σ22))))))))))
set_option maxRecDepth 20000 in
theorem ksX11_perform_73 {l : Launch} {G : Gt} {n0 u0 : Nat} {Z : Int32 × Hp} (k49 : Nat → Int32 → Hp → Option (Int32 × Hp)) (h49 : ∀ (x0 : Nat) (x1 : Int32) (σ : Hp), k49 x0 x1 σ = some Z → GoC l G RX11 "perform" cX11_perform 2 (some .int) 12 301 n0 u0 (some (.int Z.1)) Z.2 49 [(0, G.rv x0), (1, .int x1)] [] σ) (x0 : Nat) (x1 : Int32) (σ : Hp) (h : kX11_perform_73 k49 x0 x1 σ = some Z) : GoC l G RX11 "perform" cX11_perform 2 (some .int) 12 301 n0 u0 (some (.int Z.1)) Z.2 73 [(0, G.rv x0), (1, .int x1)] [] σ := by
  unfold kX11_perform_73 at h
  refine GC.aload_n 0 dX11_perform_73 rfl ?_
  refine GC.aload_n 0 dX11_perform_74 rfl ?_
  refine GC.getr 11 8 rfl (by decide) (by decide) fw_X11_74 (Or.inl rfl) dX11_perform_75 h (fun v1 h => ?_)
  refine GC.getr 0 2 rfl (by decide) (by decide) fw_X11_173 (Or.inl rfl) dX11_perform_78 h (fun v2 h => ?_)
  refine GoC.iload_n 1 dX11_perform_81 rfl ?_
  refine GC.iald dX11_perform_82 h (fun v3 h => ?_)
  refine GC.aload_n 0 dX11_perform_83 rfl ?_
  refine GC.getr 11 8 rfl (by decide) (by decide) fw_X11_74 (Or.inl rfl) dX11_perform_84 h (fun v4 h => ?_)
  refine GC.getr 0 3 rfl (by decide) (by decide) fw_X11_177 (Or.inl rfl) dX11_perform_87 h (fun v5 h => ?_)
  refine GoC.iload_n 1 dX11_perform_90 rfl ?_
  refine GC.iald dX11_perform_91 h (fun v6 h => ?_)
  refine GC.aload_n 0 dX11_perform_92 rfl ?_
  refine GC.getr 11 8 rfl (by decide) (by decide) fw_X11_74 (Or.inl rfl) dX11_perform_93 h (fun v7 h => ?_)
  refine GC.getr 0 4 rfl (by decide) (by decide) fw_X11_180 (Or.inl rfl) dX11_perform_96 h (fun v8 h => ?_)
  refine GoC.iload_n 1 dX11_perform_99 rfl ?_
  refine GC.iald dX11_perform_100 h (fun v9 h => ?_)
  obtain ⟨h0, h⟩ := ckd_some h
  obtain ⟨σ10, hq, h⟩ := Option.bind_eq_some_iff.mp h
  refine GC.callvV (rest := []) 11 rfl h0 rfl [.int v3, .int v6, .int v9] dX11_perform_101 kk_X11_183 km_X11_act.1 km_X11_act.2 (ktX11_act _ _ _ _ _ hq) rfl rfl (Nat.le_of_ble_eq_true rfl) (Nat.le_of_ble_eq_true rfl) trivial (Nat.le_of_ble_eq_true rfl) ?_
  refine GoC.iinc (w := 1) 1 [(0, G.rv x0), (1, .int (x1 + 1))] dX11_perform_104 rfl (by decide) (by decide) rfl ?_
  refine GoC.goto 49 dX11_perform_107 (by decide) ?_
  exact h49 _ _ _ h
set_option maxRecDepth 20000 in
theorem ksX11_perform_49 {l : Launch} {G : Gt} {n0 u0 : Nat} {Z : Int32 × Hp} (n : Nat) : ∀ (x0 : Nat) (x1 : Int32) (σ : Hp), kX11_perform_49 n x0 x1 σ = some Z → GoC l G RX11 "perform" cX11_perform 2 (some .int) 12 301 n0 u0 (some (.int Z.1)) Z.2 49 [(0, G.rv x0), (1, .int x1)] [] σ := by
  induction n with
  | zero => intro x0 x1 σ h; rw [kX11_perform_49] at h; cases h
  | succ n ih =>
    intro x0 x1 σ h
    rw [kX11_perform_49] at h
    refine GoC.iload_n 1 dX11_perform_49 rfl ?_
    refine GC.aload_n 0 dX11_perform_50 rfl ?_
    refine GC.getr 11 8 rfl (by decide) (by decide) fw_X11_74 (Or.inl rfl) dX11_perform_51 h (fun v11 h => ?_)
    refine GC.geti 0 5 rfl (by decide) (by decide) fw_X11_169 (Or.inl rfl) dX11_perform_54 h (fun v12 h => ?_)
    refine GoC.icmp_ge 110 dX11_perform_57 (by decide) h (fun h => ?_) (fun h => ?_)
    · refine GC.aload_n 0 dX11_perform_110 rfl ?_
      refine GC.getr 11 8 rfl (by decide) (by decide) fw_X11_74 (Or.inl rfl) dX11_perform_111 h (fun v13 h => ?_)
      refine GC.geti 0 5 rfl (by decide) (by decide) fw_X11_169 (Or.inl rfl) dX11_perform_114 h (fun v14 h => ?_)
      cases h
      exact GoC.iret dX11_perform_117 rfl
    · refine GoC.iload_n 1 dX11_perform_60 rfl ?_
      refine GoC.if_le 73 dX11_perform_61 (by decide) h (fun h => ?_) (fun h => ?_)
      · exact ksX11_perform_73 _ ih _ _ _ h
      · refine GC.aload_n 0 dX11_perform_64 rfl ?_
        refine GC.getr 11 9 rfl (by decide) (by decide) fw_X11_81 (Or.inl rfl) dX11_perform_65 h (fun v15 h => ?_)
        refine GoC.bipush 59 dX11_perform_68 (by decide) ?_
        obtain ⟨h0, h⟩ := ckd_some h
        obtain ⟨σ16, hq, h⟩ := Option.bind_eq_some_iff.mp h
        refine GC.callvV (rest := []) 5 rfl h0 rfl [.int 59] dX11_perform_70 kk_X11_170 km_X5_addByte.1 km_X5_addByte.2 (ktX5_addByte _ _ _ hq) rfl rfl (Nat.le_of_ble_eq_true rfl) (Nat.le_of_ble_eq_true rfl) trivial (Nat.le_of_ble_eq_true rfl) ?_
        exact ksX11_perform_73 _ ih _ _ _ h
set_option maxRecDepth 20000 in
theorem ksX11_perform {l : Launch} {G : Gt} {n0 u0 : Nat} {σ : Hp} {Z : Int32 × Hp} (x0 : Nat) (h : kX11_perform σ x0 = some Z) : GoC l G RX11 "perform" cX11_perform 2 (some .int) 12 301 n0 u0 (some (.int Z.1)) Z.2 0 [(0, G.rv x0)] [] σ := by
  unfold kX11_perform at h
  refine GC.aload_n 0 dX11_perform_0 rfl ?_
  refine GC.getr 11 9 rfl (by decide) (by decide) fw_X11_81 (Or.inl rfl) dX11_perform_1 h (fun v17 h => ?_)
  refine GoC.iconst 0 dX11_perform_4 (by decide) ?_
  refine GC.puti 5 1 rfl (by decide) (by decide) (rfl) fw_X11_160 (Or.inl rfl) (Or.inl rfl) dX11_perform_5 h (fun σ18 h => ?_)
  refine GC.aload_n 0 dX11_perform_8 rfl ?_
  refine GC.getr 11 8 rfl (by decide) (by decide) fw_X11_74 (Or.inl rfl) dX11_perform_9 h (fun v19 h => ?_)
  obtain ⟨h0, h⟩ := ckd_some h
  obtain ⟨σ20, hq, h⟩ := Option.bind_eq_some_iff.mp h
  refine GC.callvV (rest := []) 0 rfl h0 rfl [] dX11_perform_12 kk_X11_163 km_X0_read.1 km_X0_read.2 (ktX0_read _ _ hq) rfl rfl (Nat.le_of_ble_eq_true rfl) (Nat.le_of_ble_eq_true rfl) trivial (Nat.le_of_ble_eq_true rfl) ?_
  refine GC.aload_n 0 dX11_perform_15 rfl ?_
  refine GC.getr 11 8 rfl (by decide) (by decide) fw_X11_74 (Or.inl rfl) dX11_perform_16 h (fun v21 h => ?_)
  refine GoC.iconst 0 dX11_perform_19 (by decide) ?_
  refine GC.puti 0 1 rfl (by decide) (by decide) (rfl) fw_X11_157 (Or.inl rfl) (Or.inl rfl) dX11_perform_20 h (fun σ22 h => ?_)
  refine GC.aload_n 0 dX11_perform_23 rfl ?_
  refine GC.getr 11 8 rfl (by decide) (by decide) fw_X11_74 (Or.inl rfl) dX11_perform_24 h (fun v23 h => ?_)
  refine GC.geti 0 6 rfl (by decide) (by decide) fw_X11_166 (Or.inl rfl) dX11_perform_27 h (fun v24 h => ?_)
  refine GoC.iconst (-1) dX11_perform_30 (by decide) ?_
  refine GoC.icmp_eq 36 dX11_perform_31 (by decide) h (fun h => ?_) (fun h => ?_)
  · refine GC.aload_n 0 dX11_perform_36 rfl ?_
    refine GC.getr 11 7 rfl (by decide) (by decide) fw_X11_67 (Or.inl rfl) dX11_perform_37 h (fun v25 h => ?_)
    refine GC.aload_n 0 dX11_perform_40 rfl ?_
    refine GC.getr 11 0 rfl (by decide) (by decide) fw_X11_12 (Or.inl rfl) dX11_perform_41 h (fun v26 h => ?_)
    obtain ⟨h0, h⟩ := ckd_some h
    obtain ⟨σ27, hq, h⟩ := Option.bind_eq_some_iff.mp h
    refine GC.callvV (rest := []) 4 rfl h0 rfl [G.rv v26] dX11_perform_44 kk_X11_89 km_X4_keep.1 km_X4_keep.2 (ktX4_keep _ _ _ hq) rfl rfl (Nat.le_of_ble_eq_true rfl) (Nat.le_of_ble_eq_true rfl) trivial (Nat.le_of_ble_eq_true rfl) ?_
    refine GoC.iconst 0 dX11_perform_47 (by decide) ?_
    refine GoC.istore_n [(0, G.rv x0), (1, .int 0)] dX11_perform_48 (by decide) rfl ?_
    exact ksX11_perform_49 _ _ _ _ h
  · refine GoC.iconst (-1) dX11_perform_34 (by decide) ?_
    cases h
    exact GoC.iret dX11_perform_35 rfl
set_option maxRecDepth 20000 in
theorem ktX11_perform {l : Launch} {G : Gt} {σ : Hp} (x0 : Nat) : ∀ Z, kX11_perform σ x0 = some Z → MtC l G yX11_perform cX11_perform 2 (some .int) 12 301 [G.rv x0] σ (some (.int Z.1)) Z.2 := fun Z h => MtC.at (by decide +kernel) ⟨G.rv_cat _, trivial⟩ (Nat.le_of_ble_eq_true rfl) (ksX11_perform x0 h)
/-! X11_bitsOf -/
def kX11_bitsOf_67 (σ : Hp)  (x1 : UInt32) (x2 : Int32) : Option (Int32) := (fop (FP.fsub x1 FP.fconst1)).bind (fun v1 => (fop (FP.fmul v1 1258291200)).bind (fun v2 => some ((x2 <<< (23 &&& 31)) + (FP.f2i v2))))
def kX11_bitsOf_42 (σ : Hp)  : Nat → UInt32 → Int32 → Int32 → Option (Int32)
  | 0, _, _, _ => none
  | n + 1, x1, x2, x3 => if 126 ≤ x3 then kX11_bitsOf_67 σ x1 x2 else if 0 ≤ (Op.cmpValue (FP.fcmp x1 FP.fconst1) .g) then kX11_bitsOf_67 σ x1 x2 else (fop (FP.fmul x1 FP.fconst2)).bind (fun v3 => kX11_bitsOf_42 σ n v3 (x2 + (-1)) (x3 + 1))
def kX11_bitsOf_40 (σ : Hp)  (x1 : UInt32) (x2 : Int32) : Option (Int32) := kX11_bitsOf_42 σ FU x1 x2 0
def kX11_bitsOf_15 (σ : Hp)  : Nat → UInt32 → Int32 → Int32 → Option (Int32)
  | 0, _, _, _ => none
  | n + 1, x1, x2, x3 => if 127 ≤ x3 then kX11_bitsOf_40 σ x1 x2 else if (Op.cmpValue (FP.fcmp x1 FP.fconst2) .l) < 0 then kX11_bitsOf_40 σ x1 x2 else (fop (FP.fdiv x1 FP.fconst2)).bind (fun v4 => kX11_bitsOf_15 σ n v4 (x2 + 1) (x3 + 1))
def kX11_bitsOf (σ : Hp) (x0 : UInt32) : Option (Int32) := if 0 < (Op.cmpValue (FP.fcmp x0 FP.fconst0) .g) then kX11_bitsOf_15 σ FU x0 127 0 else some 0
set_option maxRecDepth 20000 in
theorem ksX11_bitsOf_67 {l : Launch} {G : Gt} {n0 u0 : Nat} {σ : Hp} {Z : Int32} (x1 : UInt32) (x2 : Int32) (h : kX11_bitsOf_67 σ x1 x2 = some Z) : GoC l G RX11 "bitsOf" cX11_bitsOf 4 (some .int) 0 0 n0 u0 (some (.int Z)) σ 67 [(1, .float x1), (2, .int x2)] [] σ := by
  unfold kX11_bitsOf_67 at h
  refine GoC.iload_n 1 dX11_bitsOf_67 rfl ?_
  refine GoC.bipush 23 dX11_bitsOf_68 (by decide) ?_
  refine GoC.ishl dX11_bitsOf_70 ?_
  refine GoC.fload_n 0 dX11_bitsOf_71 rfl ?_
  refine GoC.fconst1 dX11_bitsOf_72 ?_
  refine GoC.fsub dX11_bitsOf_73 h (fun v1 h => ?_)
  refine GoC.ldcwf (v := 1258291200) cf387 dX11_bitsOf_74 ?_
  refine GoC.fmul dX11_bitsOf_77 h (fun v2 h => ?_)
  refine GoC.f2i dX11_bitsOf_78 ?_
  refine GoC.iadd dX11_bitsOf_79 ?_
  cases h
  exact GoC.iret dX11_bitsOf_80 rfl
set_option maxRecDepth 20000 in
theorem ksX11_bitsOf_42 {l : Launch} {G : Gt} {n0 u0 : Nat} {σ : Hp} {Z : Int32} (n : Nat) : ∀ (x1 : UInt32) (x2 : Int32) (x3 : Int32), kX11_bitsOf_42 σ n x1 x2 x3 = some Z → GoC l G RX11 "bitsOf" cX11_bitsOf 4 (some .int) 0 0 n0 u0 (some (.int Z)) σ 42 [(1, .float x1), (2, .int x2), (3, .int x3)] [] σ := by
  induction n with
  | zero => intro x1 x2 x3 h; rw [kX11_bitsOf_42] at h; cases h
  | succ n ih =>
    intro x1 x2 x3 h
    rw [kX11_bitsOf_42] at h
    refine GoC.iload_n 2 dX11_bitsOf_42 rfl ?_
    refine GoC.bipush 126 dX11_bitsOf_43 (by decide) ?_
    refine GoC.icmp_ge 67 dX11_bitsOf_45 (by decide) h (fun h => ?_) (fun h => ?_)
    · refine GoC.sub [0, 1] rfl ?_
      exact ksX11_bitsOf_67 _ _ h
    · refine GoC.fload_n 0 dX11_bitsOf_48 rfl ?_
      refine GoC.fconst1 dX11_bitsOf_49 ?_
      refine GoC.fcmp dX11_bitsOf_50 ?_
      refine GoC.if_ge 67 dX11_bitsOf_51 (by decide) h (fun h => ?_) (fun h => ?_)
      · refine GoC.sub [0, 1] rfl ?_
        exact ksX11_bitsOf_67 _ _ h
      · refine GoC.fload_n 0 dX11_bitsOf_54 rfl ?_
        refine GoC.fconst2 dX11_bitsOf_55 ?_
        refine GoC.fmul dX11_bitsOf_56 h (fun v3 h => ?_)
        refine GoC.fstore_n [(1, .float v3), (2, .int x2), (3, .int x3)] dX11_bitsOf_57 (by decide) rfl ?_
        refine GoC.iinc (w := (-1)) 1 [(1, .float v3), (2, .int (x2 + (-1))), (3, .int x3)] dX11_bitsOf_58 rfl (by decide) (by decide) rfl ?_
        refine GoC.iinc (w := 1) 2 [(1, .float v3), (2, .int (x2 + (-1))), (3, .int (x3 + 1))] dX11_bitsOf_61 rfl (by decide) (by decide) rfl ?_
        refine GoC.goto 42 dX11_bitsOf_64 (by decide) ?_
        exact ih _ _ _ h
set_option maxRecDepth 20000 in
theorem ksX11_bitsOf_40 {l : Launch} {G : Gt} {n0 u0 : Nat} {σ : Hp} {Z : Int32} (x1 : UInt32) (x2 : Int32) (h : kX11_bitsOf_40 σ x1 x2 = some Z) : GoC l G RX11 "bitsOf" cX11_bitsOf 4 (some .int) 0 0 n0 u0 (some (.int Z)) σ 40 [(1, .float x1), (2, .int x2)] [] σ := by
  unfold kX11_bitsOf_40 at h
  refine GoC.iconst 0 dX11_bitsOf_40 (by decide) ?_
  refine GoC.istore_n [(1, .float x1), (2, .int x2), (3, .int 0)] dX11_bitsOf_41 (by decide) rfl ?_
  exact ksX11_bitsOf_42 _ _ _ _ h
set_option maxRecDepth 20000 in
theorem ksX11_bitsOf_15 {l : Launch} {G : Gt} {n0 u0 : Nat} {σ : Hp} {Z : Int32} (n : Nat) : ∀ (x1 : UInt32) (x2 : Int32) (x3 : Int32), kX11_bitsOf_15 σ n x1 x2 x3 = some Z → GoC l G RX11 "bitsOf" cX11_bitsOf 4 (some .int) 0 0 n0 u0 (some (.int Z)) σ 15 [(1, .float x1), (2, .int x2), (3, .int x3)] [] σ := by
  induction n with
  | zero => intro x1 x2 x3 h; rw [kX11_bitsOf_15] at h; cases h
  | succ n ih =>
    intro x1 x2 x3 h
    rw [kX11_bitsOf_15] at h
    refine GoC.iload_n 2 dX11_bitsOf_15 rfl ?_
    refine GoC.bipush 127 dX11_bitsOf_16 (by decide) ?_
    refine GoC.icmp_ge 40 dX11_bitsOf_18 (by decide) h (fun h => ?_) (fun h => ?_)
    · refine GoC.sub [0, 1] rfl ?_
      exact ksX11_bitsOf_40 _ _ h
    · refine GoC.fload_n 0 dX11_bitsOf_21 rfl ?_
      refine GoC.fconst2 dX11_bitsOf_22 ?_
      refine GoC.fcmp dX11_bitsOf_23 ?_
      refine GoC.if_lt 40 dX11_bitsOf_24 (by decide) h (fun h => ?_) (fun h => ?_)
      · refine GoC.sub [0, 1] rfl ?_
        exact ksX11_bitsOf_40 _ _ h
      · refine GoC.fload_n 0 dX11_bitsOf_27 rfl ?_
        refine GoC.fconst2 dX11_bitsOf_28 ?_
        refine GoC.fdiv dX11_bitsOf_29 h (fun v4 h => ?_)
        refine GoC.fstore_n [(1, .float v4), (2, .int x2), (3, .int x3)] dX11_bitsOf_30 (by decide) rfl ?_
        refine GoC.iinc (w := 1) 1 [(1, .float v4), (2, .int (x2 + 1)), (3, .int x3)] dX11_bitsOf_31 rfl (by decide) (by decide) rfl ?_
        refine GoC.iinc (w := 1) 2 [(1, .float v4), (2, .int (x2 + 1)), (3, .int (x3 + 1))] dX11_bitsOf_34 rfl (by decide) (by decide) rfl ?_
        refine GoC.goto 15 dX11_bitsOf_37 (by decide) ?_
        exact ih _ _ _ h
set_option maxRecDepth 20000 in
theorem ksX11_bitsOf {l : Launch} {G : Gt} {n0 u0 : Nat} {σ : Hp} {Z : Int32} (x0 : UInt32) (h : kX11_bitsOf σ x0 = some Z) : GoC l G RX11 "bitsOf" cX11_bitsOf 4 (some .int) 0 0 n0 u0 (some (.int Z)) σ 0 [(0, .float x0)] [] σ := by
  unfold kX11_bitsOf at h
  refine GoC.fload_n 0 dX11_bitsOf_0 rfl ?_
  refine GoC.fconst0 dX11_bitsOf_1 ?_
  refine GoC.fcmp dX11_bitsOf_2 ?_
  refine GoC.if_gt 8 dX11_bitsOf_3 (by decide) h (fun h => ?_) (fun h => ?_)
  · refine GoC.fload_n 0 dX11_bitsOf_8 rfl ?_
    refine GoC.fstore_n [(0, .float x0), (1, .float x0)] dX11_bitsOf_9 (by decide) rfl ?_
    refine GoC.bipush 127 dX11_bitsOf_10 (by decide) ?_
    refine GoC.istore_n [(0, .float x0), (1, .float x0), (2, .int 127)] dX11_bitsOf_12 (by decide) rfl ?_
    refine GoC.iconst 0 dX11_bitsOf_13 (by decide) ?_
    refine GoC.istore_n [(0, .float x0), (1, .float x0), (2, .int 127), (3, .int 0)] dX11_bitsOf_14 (by decide) rfl ?_
    refine GoC.sub [1, 2, 3] rfl ?_
    exact ksX11_bitsOf_15 _ _ _ _ h
  · refine GoC.iconst 0 dX11_bitsOf_6 (by decide) ?_
    cases h
    exact GoC.iret dX11_bitsOf_7 rfl
set_option maxRecDepth 20000 in
theorem ktX11_bitsOf {l : Launch} {G : Gt} {σ : Hp} (x0 : UInt32) : ∀ Z, kX11_bitsOf σ x0 = some Z → MtC l G yX11_bitsOf cX11_bitsOf 4 (some .int) 0 0 [.float x0] σ (some (.int Z)) σ := fun Z h => MtC.at (by decide +kernel) ⟨rfl, trivial⟩ (Nat.le_of_ble_eq_true rfl) (ksX11_bitsOf x0 h)
/-! X11_mean -/
def kX11_mean (σ : Hp) (x0 : Nat) : Option (Int32) := (gfr σ 21 1100 x0).bind (fun v1 => (gfi σ 17 701 v1).bind (fun v2 => (gfr σ 21 1100 x0).bind (fun v3 => (gfi σ 17 701 v3).bind (fun v4 => if 0 < ((v2 * (v4 - 1)) / 2) then (gfr σ 21 1106 x0).bind (fun v5 => ckd σ v5 18 ((kX8_sumOfPairs σ v5).bind (fun v6 => (fop (FP.fdiv (FP.i2f v6) (FP.i2f ((v2 * (v4 - 1)) / 2)))).bind (fun v7 => (kX11_bitsOf σ v7).bind (fun v8 => some v8))))) else some 0))))
set_option maxRecDepth 20000 in
theorem ksX11_mean {l : Launch} {G : Gt} {n0 u0 : Nat} {σ : Hp} {Z : Int32} (x0 : Nat) (h : kX11_mean σ x0 = some Z) : GoC l G RX11 "mean" cX11_mean 2 (some .int) 3 66 n0 u0 (some (.int Z)) σ 0 [(0, G.rv x0)] [] σ := by
  unfold kX11_mean at h
  refine GC.aload_n 0 dX11_mean_0 rfl ?_
  refine GC.getr 11 0 rfl (by decide) (by decide) fw_X11_12 (Or.inl rfl) dX11_mean_1 h (fun v1 h => ?_)
  refine GC.geti 7 1 rfl (by decide) (by decide) fw_X11_196 (Or.inl rfl) dX11_mean_4 h (fun v2 h => ?_)
  refine GC.aload_n 0 dX11_mean_7 rfl ?_
  refine GC.getr 11 0 rfl (by decide) (by decide) fw_X11_12 (Or.inl rfl) dX11_mean_8 h (fun v3 h => ?_)
  refine GC.geti 7 1 rfl (by decide) (by decide) fw_X11_196 (Or.inl rfl) dX11_mean_11 h (fun v4 h => ?_)
  refine GoC.iconst 1 dX11_mean_14 (by decide) ?_
  refine GoC.isub dX11_mean_15 ?_
  refine GoC.imul dX11_mean_16 ?_
  refine GoC.iconst 2 dX11_mean_17 (by decide) ?_
  refine GoC.idiv dX11_mean_18 (by decide) ?_
  refine GoC.istore_n [(0, G.rv x0), (1, .int ((v2 * (v4 - 1)) / 2))] dX11_mean_19 (by decide) rfl ?_
  refine GoC.iload_n 1 dX11_mean_20 rfl ?_
  refine GoC.if_gt 26 dX11_mean_21 (by decide) h (fun h => ?_) (fun h => ?_)
  · refine GC.aload_n 0 dX11_mean_26 rfl ?_
    refine GC.getr 11 6 rfl (by decide) (by decide) fw_X11_60 (Or.inl rfl) dX11_mean_27 h (fun v5 h => ?_)
    obtain ⟨h0, h⟩ := ckd_some h
    obtain ⟨v6, hq, h⟩ := Option.bind_eq_some_iff.mp h
    refine GC.callvI (rest := []) 8 rfl h0 rfl [] dX11_mean_30 kk_X11_341 km_X8_sumOfPairs.1 km_X8_sumOfPairs.2 (ktX8_sumOfPairs _ _ hq) rfl rfl (Nat.le_of_ble_eq_true rfl) (Nat.le_of_ble_eq_true rfl) trivial (Nat.le_of_ble_eq_true rfl) ?_
    refine GoC.i2f dX11_mean_33 ?_
    refine GoC.iload_n 1 dX11_mean_34 rfl ?_
    refine GoC.i2f dX11_mean_35 ?_
    refine GoC.fdiv dX11_mean_36 h (fun v7 h => ?_)
    obtain ⟨v8, hq, h⟩ := Option.bind_eq_some_iff.mp h
    refine GC.callsI (rest := []) [.float v7] dX11_mean_37 kk_X11_344 km_X11_bitsOf (ktX11_bitsOf _ _ hq) rfl rfl (Nat.le_of_ble_eq_true rfl) (Nat.le_of_ble_eq_true rfl) trivial (Nat.le_of_ble_eq_true rfl) ?_
    cases h
    exact GoC.iret dX11_mean_40 rfl
  · refine GoC.iconst 0 dX11_mean_24 (by decide) ?_
    cases h
    exact GoC.iret dX11_mean_25 rfl
set_option maxRecDepth 20000 in
theorem ktX11_mean {l : Launch} {G : Gt} {σ : Hp} (x0 : Nat) : ∀ Z, kX11_mean σ x0 = some Z → MtC l G yX11_mean cX11_mean 2 (some .int) 3 66 [G.rv x0] σ (some (.int Z)) σ := fun Z h => MtC.at (by decide +kernel) ⟨G.rv_cat _, trivial⟩ (Nat.le_of_ble_eq_true rfl) (ksX11_mean x0 h)
