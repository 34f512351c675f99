/-! X6_letWait -/
def kX6_letWait (σ : Hp) (x0 : Nat) (x1 : Nat) (x2 : Int32) : Option (Hp) := (pfz σ 13 311 x1 1).bind (fun σ1 => (pfi σ1 13 312 x1 x2).bind (fun σ2 => (gfi σ2 16 609 x0).bind (fun v3 => (pfi σ2 13 313 x1 v3).bind (fun σ4 => (gfi σ4 16 609 x0).bind (fun v5 => (pfi σ4 16 609 x0 (v5 + 1)).bind (fun σ6 => some σ6))))))
set_option maxRecDepth 20000 in
theorem ksX6_letWait {l : Launch} {G : Gt} {n0 u0 : Nat} {σ : Hp} {Z : Hp} (x0 : Nat) (x1 : Nat) (x2 : Int32) (h : kX6_letWait σ x0 x1 x2 = some Z) : GoC l G RX6 "letWait" cX6_letWait 3 none 0 0 n0 u0 none Z 0 [(0, G.rv x0), (1, G.rv x1), (2, .int x2)] [] σ := by
  unfold kX6_letWait at h
  refine GC.aload_n 1 dX6_letWait_0 rfl ?_
  refine GoC.iconst 1 dX6_letWait_1 (by decide) ?_
  refine GC.putz 3 11 rfl (by decide) (by decide) (rfl) fw_X6_86 (Or.inl rfl) (Or.inl rfl) dX6_letWait_2 h (fun σ1 h => ?_)
  refine GC.aload_n 1 dX6_letWait_5 rfl ?_
  refine GoC.iload_n 2 dX6_letWait_6 rfl ?_
  refine GC.puti 3 12 rfl (by decide) (by decide) (rfl) fw_X6_102 (Or.inl rfl) (Or.inl rfl) dX6_letWait_7 h (fun σ2 h => ?_)
  refine GC.aload_n 1 dX6_letWait_10 rfl ?_
  refine GC.aload_n 0 dX6_letWait_11 rfl ?_
  refine GC.geti 6 9 rfl (by decide) (by decide) fw_X6_68 (Or.inl rfl) dX6_letWait_12 h (fun v3 h => ?_)
  refine GC.puti 3 13 rfl (by decide) (by decide) (rfl) fw_X6_113 (Or.inl rfl) (Or.inl rfl) dX6_letWait_15 h (fun σ4 h => ?_)
  refine GC.aload_n 0 dX6_letWait_18 rfl ?_
  refine GoC.dup dX6_letWait_19 (G.rv_cat _) ?_
  refine GC.geti 6 9 rfl (by decide) (by decide) fw_X6_68 (Or.inl rfl) dX6_letWait_20 h (fun v5 h => ?_)
  refine GoC.iconst 1 dX6_letWait_23 (by decide) ?_
  refine GoC.iadd dX6_letWait_24 ?_
  refine GC.puti 6 9 rfl (by decide) (by decide) (rfl) fw_X6_68 (Or.inl rfl) (Or.inl rfl) dX6_letWait_25 h (fun σ6 h => ?_)
  cases h
  exact GoC.vret dX6_letWait_28 rfl
set_option maxRecDepth 20000 in
theorem ktX6_letWait {l : Launch} {G : Gt} {σ : Hp} (x0 : Nat) (x1 : Nat) (x2 : Int32) : ∀ Z, kX6_letWait σ x0 x1 x2 = some Z → MtC l G yX6_letWait cX6_letWait 3 none 0 0 [G.rv x0, G.rv x1, .int x2] σ none Z := fun Z h => MtC.at (by decide +kernel) ⟨G.rv_cat _, G.rv_cat _, rfl, trivial⟩ (Nat.le_of_ble_eq_true rfl) (ksX6_letWait x0 x1 x2 h)
/-! X6_nextPage -/
def kX6_nextPage_70 (σ : Hp) (k4 : Nat → Nat → Int32 → Option (Nat)) (x0 : Nat) (x1 : Nat) (x2 : Int32) : Option (Nat) := k4 x0 x1 (x2 + 1)
def kX6_nextPage_68 (σ : Hp) (k4 : Nat → Nat → Int32 → Option (Nat)) (x0 : Nat) (x2 : Int32) (x3 : Nat) : Option (Nat) := kX6_nextPage_70 σ k4 x0 x3 x2
def kX6_nextPage_4 (σ : Hp)  : Nat → Nat → Nat → Int32 → Option (Nat)
  | 0, _, _, _ => none
  | n + 1, x0, x1, x2 => (gfr σ 16 600 x0).bind (fun v1 => (gfi σ 17 709 v1).bind (fun v2 => if v2 ≤ x2 then some x1 else (gfr σ 16 600 x0).bind (fun v3 => ckd σ v3 17 ((kX7_at σ v3 x2).bind (fun v4 => (gfi σ 13 311 v4).bind (fun v5 => if v5 = 0 then kX6_nextPage_70 σ (kX6_nextPage_4 σ n) x0 x1 x2 else if x1 = 0 then kX6_nextPage_68 σ (kX6_nextPage_4 σ n) x0 x2 v4 else (gfi σ 13 312 v4).bind (fun v6 => (gfi σ 13 312 x1).bind (fun v7 => if v6 < v7 then kX6_nextPage_68 σ (kX6_nextPage_4 σ n) x0 x2 v4 else (gfi σ 13 312 v4).bind (fun v8 => (gfi σ 13 312 x1).bind (fun v9 => if v8 = v9 then (gfi σ 13 313 v4).bind (fun v10 => (gfi σ 13 313 x1).bind (fun v11 => if v11 ≤ v10 then kX6_nextPage_70 σ (kX6_nextPage_4 σ n) x0 x1 x2 else kX6_nextPage_68 σ (kX6_nextPage_4 σ n) x0 x2 v4)) else kX6_nextPage_70 σ (kX6_nextPage_4 σ n) x0 x1 x2))))))))))
def kX6_nextPage (σ : Hp) (x0 : Nat) : Option (Nat) := kX6_nextPage_4 σ FU x0 0 0
set_option maxRecDepth 20000 in
theorem ksX6_nextPage_70 {l : Launch} {G : Gt} {n0 u0 : Nat} {σ : Hp} {Z : Nat} (k4 : Nat → Nat → Int32 → Option (Nat)) (h4 : ∀ (x0 : Nat) (x1 : Nat) (x2 : Int32), k4 x0 x1 x2 = some Z → GoC l G RX6 "nextPage" cX6_nextPage 4 (some (.object "LikePages$Page")) 4 85 n0 u0 (some (G.rv Z)) σ 4 [(0, G.rv x0), (1, G.rv x1), (2, .int x2)] [] σ) (x0 : Nat) (x1 : Nat) (x2 : Int32) (h : kX6_nextPage_70 σ k4 x0 x1 x2 = some Z) : GoC l G RX6 "nextPage" cX6_nextPage 4 (some (.object "LikePages$Page")) 4 85 n0 u0 (some (G.rv Z)) σ 70 [(0, G.rv x0), (1, G.rv x1), (2, .int x2)] [] σ := by
  unfold kX6_nextPage_70 at h
  refine GoC.iinc (w := 1) 2 [(0, G.rv x0), (1, G.rv x1), (2, .int (x2 + 1))] dX6_nextPage_70 rfl (by decide) (by decide) rfl ?_
  refine GoC.goto 4 dX6_nextPage_73 (by decide) ?_
  exact h4 _ _ _ h
set_option maxRecDepth 20000 in
theorem ksX6_nextPage_68 {l : Launch} {G : Gt} {n0 u0 : Nat} {σ : Hp} {Z : Nat} (k4 : Nat → Nat → Int32 → Option (Nat)) (h4 : ∀ (x0 : Nat) (x1 : Nat) (x2 : Int32), k4 x0 x1 x2 = some Z → GoC l G RX6 "nextPage" cX6_nextPage 4 (some (.object "LikePages$Page")) 4 85 n0 u0 (some (G.rv Z)) σ 4 [(0, G.rv x0), (1, G.rv x1), (2, .int x2)] [] σ) (x0 : Nat) (x2 : Int32) (x3 : Nat) (h : kX6_nextPage_68 σ k4 x0 x2 x3 = some Z) : GoC l G RX6 "nextPage" cX6_nextPage 4 (some (.object "LikePages$Page")) 4 85 n0 u0 (some (G.rv Z)) σ 68 [(0, G.rv x0), (2, .int x2), (3, G.rv x3)] [] σ := by
  unfold kX6_nextPage_68 at h
  refine GC.aload_n 2 dX6_nextPage_68 rfl ?_
  refine GC.astore_n [(0, G.rv x0), (1, G.rv x3), (2, .int x2), (3, G.rv x3)] dX6_nextPage_69 (by decide) rfl ?_
  refine GoC.sub [0, 1, 2] rfl ?_
  exact ksX6_nextPage_70 _ h4 _ _ _ h
set_option maxRecDepth 20000 in
theorem ksX6_nextPage_4 {l : Launch} {G : Gt} {n0 u0 : Nat} {σ : Hp} {Z : Nat} (n : Nat) : ∀ (x0 : Nat) (x1 : Nat) (x2 : Int32), kX6_nextPage_4 σ n x0 x1 x2 = some Z → GoC l G RX6 "nextPage" cX6_nextPage 4 (some (.object "LikePages$Page")) 4 85 n0 u0 (some (G.rv Z)) σ 4 [(0, G.rv x0), (1, G.rv x1), (2, .int x2)] [] σ := by
  induction n with
  | zero => intro x0 x1 x2 h; rw [kX6_nextPage_4] at h; cases h
  | succ n ih =>
    intro x0 x1 x2 h
    rw [kX6_nextPage_4] at h
    refine GoC.iload_n 2 dX6_nextPage_4 rfl ?_
    refine GC.aload_n 0 dX6_nextPage_5 rfl ?_
    refine GC.getr 6 0 rfl (by decide) (by decide) fw_X6_25 (Or.inl rfl) dX6_nextPage_6 h (fun v1 h => ?_)
    refine GC.geti 7 9 rfl (by decide) (by decide) fw_X6_77 (Or.inl rfl) dX6_nextPage_9 h (fun v2 h => ?_)
    refine GoC.icmp_ge 76 dX6_nextPage_12 (by decide) h (fun h => ?_) (fun h => ?_)
    · refine GC.aload_n 1 dX6_nextPage_76 rfl ?_
      cases h
      exact GC.aret dX6_nextPage_77 rfl (Or.inl ⟨_, rfl⟩)
    · refine GC.aload_n 0 dX6_nextPage_15 rfl ?_
      refine GC.getr 6 0 rfl (by decide) (by decide) fw_X6_25 (Or.inl rfl) dX6_nextPage_16 h (fun v3 h => ?_)
      refine GoC.iload_n 2 dX6_nextPage_19 rfl ?_
      obtain ⟨h0, h⟩ := ckd_some h
      obtain ⟨v4, hq, h⟩ := Option.bind_eq_some_iff.mp h
      refine GC.callvR (rest := []) 7 rfl h0 rfl [.int x2] dX6_nextPage_20 kk_X6_82 km_X7_at.1 km_X7_at.2 (ktX7_at _ _ _ hq) rfl rfl (Nat.le_of_ble_eq_true rfl) (Nat.le_of_ble_eq_true rfl) trivial (Nat.le_of_ble_eq_true rfl) ?_
      refine GC.astore_n [(0, G.rv x0), (1, G.rv x1), (2, .int x2), (3, G.rv v4)] dX6_nextPage_23 (by decide) rfl ?_
      refine GC.aload_n 3 dX6_nextPage_24 rfl ?_
      refine GC.geti 3 11 rfl (by decide) (by decide) fw_X6_86 (Or.inl rfl) dX6_nextPage_25 h (fun v5 h => ?_)
      refine GoC.if_eq 70 dX6_nextPage_28 (by decide) h (fun h => ?_) (fun h => ?_)
      · refine GoC.sub [0, 1, 2] rfl ?_
        exact ksX6_nextPage_70 _ ih _ _ _ h
      · refine GC.aload_n 1 dX6_nextPage_31 rfl ?_
        refine GC.ifnull 68 dX6_nextPage_32 (by decide) h (fun h => ?_) (fun h => ?_)
        · refine GoC.sub [0, 2, 3] rfl ?_
          exact ksX6_nextPage_68 _ ih _ _ _ h
        · refine GC.aload_n 3 dX6_nextPage_35 rfl ?_
          refine GC.geti 3 12 rfl (by decide) (by decide) fw_X6_102 (Or.inl rfl) dX6_nextPage_36 h (fun v6 h => ?_)
          refine GC.aload_n 1 dX6_nextPage_39 rfl ?_
          refine GC.geti 3 12 rfl (by decide) (by decide) fw_X6_102 (Or.inl rfl) dX6_nextPage_40 h (fun v7 h => ?_)
          refine GoC.icmp_lt 68 dX6_nextPage_43 (by decide) h (fun h => ?_) (fun h => ?_)
          · refine GoC.sub [0, 2, 3] rfl ?_
            exact ksX6_nextPage_68 _ ih _ _ _ h
          · refine GC.aload_n 3 dX6_nextPage_46 rfl ?_
            refine GC.geti 3 12 rfl (by decide) (by decide) fw_X6_102 (Or.inl rfl) dX6_nextPage_47 h (fun v8 h => ?_)
            refine GC.aload_n 1 dX6_nextPage_50 rfl ?_
            refine GC.geti 3 12 rfl (by decide) (by decide) fw_X6_102 (Or.inl rfl) dX6_nextPage_51 h (fun v9 h => ?_)
            refine GoC.icmp_ne 70 dX6_nextPage_54 (by decide) h (fun h => ?_) (fun h => ?_)
            · refine GoC.sub [0, 1, 2] rfl ?_
              exact ksX6_nextPage_70 _ ih _ _ _ h
            · refine GC.aload_n 3 dX6_nextPage_57 rfl ?_
              refine GC.geti 3 13 rfl (by decide) (by decide) fw_X6_113 (Or.inl rfl) dX6_nextPage_58 h (fun v10 h => ?_)
              refine GC.aload_n 1 dX6_nextPage_61 rfl ?_
              refine GC.geti 3 13 rfl (by decide) (by decide) fw_X6_113 (Or.inl rfl) dX6_nextPage_62 h (fun v11 h => ?_)
              refine GoC.icmp_ge 70 dX6_nextPage_65 (by decide) h (fun h => ?_) (fun h => ?_)
              · refine GoC.sub [0, 1, 2] rfl ?_
                exact ksX6_nextPage_70 _ ih _ _ _ h
              · refine GoC.sub [0, 2, 3] rfl ?_
                exact ksX6_nextPage_68 _ ih _ _ _ h
set_option maxRecDepth 20000 in
theorem ksX6_nextPage {l : Launch} {G : Gt} {n0 u0 : Nat} {σ : Hp} {Z : Nat} (x0 : Nat) (h : kX6_nextPage σ x0 = some Z) : GoC l G RX6 "nextPage" cX6_nextPage 4 (some (.object "LikePages$Page")) 4 85 n0 u0 (some (G.rv Z)) σ 0 [(0, G.rv x0)] [] σ := by
  unfold kX6_nextPage at h
  refine GC.null dX6_nextPage_0 ?_
  refine GC.astore_n [(0, G.rv x0), (1, G.rv 0)] dX6_nextPage_1 (by decide) rfl ?_
  refine GoC.iconst 0 dX6_nextPage_2 (by decide) ?_
  refine GoC.istore_n [(0, G.rv x0), (1, G.rv 0), (2, .int 0)] dX6_nextPage_3 (by decide) rfl ?_
  exact ksX6_nextPage_4 _ _ _ _ h
set_option maxRecDepth 20000 in
theorem ktX6_nextPage {l : Launch} {G : Gt} {σ : Hp} (x0 : Nat) : ∀ Z, kX6_nextPage σ x0 = some Z → MtC l G yX6_nextPage cX6_nextPage 4 (some (.object "LikePages$Page")) 4 85 [G.rv x0] σ (some (G.rv Z)) σ := fun Z h => MtC.at (by decide +kernel) ⟨G.rv_cat _, trivial⟩ (Nat.le_of_ble_eq_true rfl) (ksX6_nextPage x0 h)
/-! X6_isBeyond -/
def kX6_isBeyond_18 (σ : Hp)  (x0 : Nat) (x1 : Int32) : Option (Int32) := (gfi σ 16 607 x0).bind (fun v1 => if x1 ≤ v1 then zb 0 else zb 1)
def kX6_isBeyond (σ : Hp) (x0 : Nat) (x1 : Int32) : Option (Int32) := (gfi σ 16 606 x0).bind (fun v2 => if v2 = 0 then (gfi σ 16 613 x0).bind (fun v3 => (gfi σ 16 608 x0).bind (fun v4 => if v3 < v4 then zb 0 else kX6_isBeyond_18 σ x0 x1)) else kX6_isBeyond_18 σ x0 x1)
set_option maxRecDepth 20000 in
theorem ksX6_isBeyond_18 {l : Launch} {G : Gt} {n0 u0 : Nat} {σ : Hp} {Z : Int32} (x0 : Nat) (x1 : Int32) (h : kX6_isBeyond_18 σ x0 x1 = some Z) : GoC l G RX6 "isBeyond" cX6_isBeyond 2 (some .boolean) 0 0 n0 u0 (some (.int Z)) σ 18 [(0, G.rv x0), (1, .int x1)] [] σ := by
  unfold kX6_isBeyond_18 at h
  refine GoC.iload_n 1 dX6_isBeyond_18 rfl ?_
  refine GC.aload_n 0 dX6_isBeyond_19 rfl ?_
  refine GC.geti 6 7 rfl (by decide) (by decide) fw_X6_50 (Or.inl rfl) dX6_isBeyond_20 h (fun v1 h => ?_)
  refine GoC.icmp_le 30 dX6_isBeyond_23 (by decide) h (fun h => ?_) (fun h => ?_)
  · refine GoC.iconst 0 dX6_isBeyond_30 (by decide) ?_
    exact GoC.zret dX6_isBeyond_31 rfl h
  · refine GoC.iconst 1 dX6_isBeyond_26 (by decide) ?_
    refine GoC.goto 31 dX6_isBeyond_27 (by decide) ?_
    exact GoC.zret dX6_isBeyond_31 rfl h
set_option maxRecDepth 20000 in
theorem ksX6_isBeyond {l : Launch} {G : Gt} {n0 u0 : Nat} {σ : Hp} {Z : Int32} (x0 : Nat) (x1 : Int32) (h : kX6_isBeyond σ x0 x1 = some Z) : GoC l G RX6 "isBeyond" cX6_isBeyond 2 (some .boolean) 0 0 n0 u0 (some (.int Z)) σ 0 [(0, G.rv x0), (1, .int x1)] [] σ := by
  unfold kX6_isBeyond at h
  refine GC.aload_n 0 dX6_isBeyond_0 rfl ?_
  refine GC.geti 6 6 rfl (by decide) (by decide) fw_X6_47 (Or.inl rfl) dX6_isBeyond_1 h (fun v2 h => ?_)
  refine GoC.if_ne 18 dX6_isBeyond_4 (by decide) h (fun h => ?_) (fun h => ?_)
  · exact ksX6_isBeyond_18 _ _ h
  · refine GC.aload_n 0 dX6_isBeyond_7 rfl ?_
    refine GC.geti 6 13 rfl (by decide) (by decide) fw_X6_37 (Or.inl rfl) dX6_isBeyond_8 h (fun v3 h => ?_)
    refine GC.aload_n 0 dX6_isBeyond_11 rfl ?_
    refine GC.geti 6 8 rfl (by decide) (by decide) fw_X6_53 (Or.inl rfl) dX6_isBeyond_12 h (fun v4 h => ?_)
    refine GoC.icmp_lt 30 dX6_isBeyond_15 (by decide) h (fun h => ?_) (fun h => ?_)
    · refine GoC.iconst 0 dX6_isBeyond_30 (by decide) ?_
      exact GoC.zret dX6_isBeyond_31 rfl h
    · exact ksX6_isBeyond_18 _ _ h
set_option maxRecDepth 20000 in
theorem ktX6_isBeyond {l : Launch} {G : Gt} {σ : Hp} (x0 : Nat) (x1 : Int32) : ∀ Z, kX6_isBeyond σ x0 x1 = some Z → MtC l G yX6_isBeyond cX6_isBeyond 2 (some .boolean) 0 0 [G.rv x0, .int x1] σ (some (.int Z)) σ := fun Z h => MtC.at (by decide +kernel) ⟨G.rv_cat _, rfl, trivial⟩ (Nat.le_of_ble_eq_true rfl) (ksX6_isBeyond x0 x1 h)
/-! X6_leastRank -/
def kX6_leastRank_66 (σ : Hp)  (x1 : Nat) (x2 : Int32) (y0 : Int32) : Option (Int32) := (gfr σ 13 304 x1).bind (fun v1 => (ald σ 1 v1 x2).bind (fun v2 => some (y0 - v2)))
def kX6_leastRank (σ : Hp) (x0 : Nat) (x1 : Nat) (x2 : Int32) : Option (Int32) := (gfr σ 16 610 x0).bind (fun v3 => (gfi σ 13 301 x1).bind (fun v4 => (ald σ 1 v3 v4).bind (fun v5 => (gfr σ 16 601 x0).bind (fun v6 => (gfi σ 13 301 x1).bind (fun v7 => (gfr σ 13 303 x1).bind (fun v8 => (ald σ 1 v8 x2).bind (fun v9 => ckd σ v6 11 ((kX1_of σ v6 v7 v9).bind (fun v10 => (gfi σ 16 605 x0).bind (fun v11 => if v11 = 0 then if v5 ≤ v10 then kX6_leastRank_66 σ x1 x2 (v10 - v5) else kX6_leastRank_66 σ x1 x2 (v5 - v10) else (gfr σ 13 304 x1).bind (fun v12 => (ald σ 1 v12 x2).bind (fun v13 => some (-((v5 + v10) + v13))))))))))))))
set_option maxRecDepth 20000 in
theorem ksX6_leastRank_66 {l : Launch} {G : Gt} {n0 u0 : Nat} {σ : Hp} {Z : Int32} (x1 : Nat) (x2 : Int32) (y0 : Int32) (h : kX6_leastRank_66 σ x1 x2 y0 = some Z) : GoC l G RX6 "leastRank" cX6_leastRank 5 (some .int) 1 22 n0 u0 (some (.int Z)) σ 66 [(1, G.rv x1), (2, .int x2)] [.int y0] σ := by
  unfold kX6_leastRank_66 at h
  refine GC.aload_n 0 dX6_leastRank_66 rfl ?_
  refine GC.getr 3 4 rfl (by decide) (by decide) fw_X6_138 (Or.inl rfl) dX6_leastRank_67 h (fun v1 h => ?_)
  refine GoC.iload_n 1 dX6_leastRank_70 rfl ?_
  refine GC.iald dX6_leastRank_71 h (fun v2 h => ?_)
  refine GoC.isub dX6_leastRank_72 ?_
  cases h
  exact GoC.iret dX6_leastRank_73 rfl
set_option maxRecDepth 20000 in
theorem ksX6_leastRank {l : Launch} {G : Gt} {n0 u0 : Nat} {σ : Hp} {Z : Int32} (x0 : Nat) (x1 : Nat) (x2 : Int32) (h : kX6_leastRank σ x0 x1 x2 = some Z) : GoC l G RX6 "leastRank" cX6_leastRank 5 (some .int) 1 22 n0 u0 (some (.int Z)) σ 0 [(0, G.rv x0), (1, G.rv x1), (2, .int x2)] [] σ := by
  unfold kX6_leastRank at h
  refine GC.aload_n 0 dX6_leastRank_0 rfl ?_
  refine GC.getr 6 10 rfl (by decide) (by decide) fw_X6_15 (Or.inl rfl) dX6_leastRank_1 h (fun v3 h => ?_)
  refine GC.aload_n 1 dX6_leastRank_4 rfl ?_
  refine GC.geti 3 1 rfl (by decide) (by decide) fw_X6_117 (Or.inl rfl) dX6_leastRank_5 h (fun v4 h => ?_)
  refine GC.iald dX6_leastRank_8 h (fun v5 h => ?_)
  refine GoC.istore_n [(0, G.rv x0), (1, G.rv x1), (2, .int x2), (3, .int v5)] dX6_leastRank_9 (by decide) rfl ?_
  refine GC.aload_n 0 dX6_leastRank_10 rfl ?_
  refine GC.getr 6 1 rfl (by decide) (by decide) fw_X6_29 (Or.inl rfl) dX6_leastRank_11 h (fun v6 h => ?_)
  refine GC.aload_n 1 dX6_leastRank_14 rfl ?_
  refine GC.geti 3 1 rfl (by decide) (by decide) fw_X6_117 (Or.inl rfl) dX6_leastRank_15 h (fun v7 h => ?_)
  refine GC.aload_n 1 dX6_leastRank_18 rfl ?_
  refine GC.getr 3 3 rfl (by decide) (by decide) fw_X6_124 (Or.inl rfl) dX6_leastRank_19 h (fun v8 h => ?_)
  refine GoC.iload_n 2 dX6_leastRank_22 rfl ?_
  refine GC.iald dX6_leastRank_23 h (fun v9 h => ?_)
  obtain ⟨h0, h⟩ := ckd_some h
  obtain ⟨v10, hq, h⟩ := Option.bind_eq_some_iff.mp h
  refine GC.callvI (rest := []) 1 rfl h0 rfl [.int v7, .int v9] dX6_leastRank_24 kk_X6_148 km_X1_of.1 km_X1_of.2 (ktX1_of _ _ _ _ hq) rfl rfl (Nat.le_of_ble_eq_true rfl) (Nat.le_of_ble_eq_true rfl) trivial (Nat.le_of_ble_eq_true rfl) ?_
  refine GoC.istore [(0, G.rv x0), (1, G.rv x1), (2, .int x2), (3, .int v5), (4, .int v10)] dX6_leastRank_27 (by decide) rfl ?_
  refine GC.aload_n 0 dX6_leastRank_29 rfl ?_
  refine GC.geti 6 5 rfl (by decide) (by decide) fw_X6_43 (Or.inl rfl) dX6_leastRank_30 h (fun v11 h => ?_)
  refine GoC.if_eq 49 dX6_leastRank_33 (by decide) h (fun h => ?_) (fun h => ?_)
  · refine GoC.iload_n 3 dX6_leastRank_49 rfl ?_
    refine GoC.iload 4 dX6_leastRank_50 rfl ?_
    refine GoC.icmp_le 62 dX6_leastRank_52 (by decide) h (fun h => ?_) (fun h => ?_)
    · refine GoC.iload 4 dX6_leastRank_62 rfl ?_
      refine GoC.iload_n 3 dX6_leastRank_64 rfl ?_
      refine GoC.isub dX6_leastRank_65 ?_
      refine GoC.sub [1, 2] rfl ?_
      exact ksX6_leastRank_66 _ _ _ h
    · refine GoC.iload_n 3 dX6_leastRank_55 rfl ?_
      refine GoC.iload 4 dX6_leastRank_56 rfl ?_
      refine GoC.isub dX6_leastRank_58 ?_
      refine GoC.goto 66 dX6_leastRank_59 (by decide) ?_
      refine GoC.sub [1, 2] rfl ?_
      exact ksX6_leastRank_66 _ _ _ h
  · refine GoC.iload_n 3 dX6_leastRank_36 rfl ?_
    refine GoC.iload 4 dX6_leastRank_37 rfl ?_
    refine GoC.iadd dX6_leastRank_39 ?_
    refine GC.aload_n 1 dX6_leastRank_40 rfl ?_
    refine GC.getr 3 4 rfl (by decide) (by decide) fw_X6_138 (Or.inl rfl) dX6_leastRank_41 h (fun v12 h => ?_)
    refine GoC.iload_n 2 dX6_leastRank_44 rfl ?_
    refine GC.iald dX6_leastRank_45 h (fun v13 h => ?_)
    refine GoC.iadd dX6_leastRank_46 ?_
    refine GoC.ineg dX6_leastRank_47 ?_
    cases h
    exact GoC.iret dX6_leastRank_48 rfl
set_option maxRecDepth 20000 in
theorem ktX6_leastRank {l : Launch} {G : Gt} {σ : Hp} (x0 : Nat) (x1 : Nat) (x2 : Int32) : ∀ Z, kX6_leastRank σ x0 x1 x2 = some Z → MtC l G yX6_leastRank cX6_leastRank 5 (some .int) 1 22 [G.rv x0, G.rv x1, .int x2] σ (some (.int Z)) σ := fun Z h => MtC.at (by decide +kernel) ⟨G.rv_cat _, G.rv_cat _, rfl, trivial⟩ (Nat.le_of_ble_eq_true rfl) (ksX6_leastRank x0 x1 x2 h)
/-! X6_farTo -/
def kX6_farTo_76  (x0 : Nat) (x1 : Int32) (σ : Hp) : Option (Int32 × Hp) := (gfr σ 16 610 x0).bind (fun v1 => (ald σ 1 v1 x1).bind (fun v2 => some (v2, σ)))
def kX6_farTo_75  (x0 : Nat) (x1 : Int32) (y0 : Nat) (y1 : Int32) (y2 : Int32) (σ : Hp) : Option (Int32 × Hp) := (ast σ 1 y0 y1 y2).bind (fun σ3 => kX6_farTo_76 x0 x1 σ3)
def kX6_farTo (σ : Hp) (x0 : Nat) (x1 : Int32) : Option (Int32 × Hp) := (gfr σ 16 610 x0).bind (fun v4 => (ald σ 1 v4 x1).bind (fun v5 => if v5 = (-1) then (gfi σ 16 614 x0).bind (fun v6 => (pfi σ 16 614 x0 (v6 + 1)).bind (fun σ7 => (gfr σ7 16 610 x0).bind (fun v8 => (gfi σ7 16 604 x0).bind (fun v9 => if v9 = (-1) then (gfr σ7 16 602 x0).bind (fun v10 => (gfr σ7 16 600 x0).bind (fun v11 => (gfi σ7 17 706 v11).bind (fun v12 => (gfi σ7 16 603 x0).bind (fun v13 => (gfr σ7 16 600 x0).bind (fun v14 => (gfr σ7 17 700 v14).bind (fun v15 => (ald σ7 1 v15 x1).bind (fun v16 => ckd σ7 v10 12 (bd2 (kX2_between σ7 v10 v12 v13 v16) (fun v17 σ18 => kX6_farTo_75 x0 x1 v8 x1 v17 σ18))))))))) else (gfr σ7 16 601 x0).bind (fun v19 => (gfi σ7 16 604 x0).bind (fun v20 => ckd σ7 v19 11 ((kX1_of σ7 v19 v20 x1).bind (fun v21 => kX6_farTo_75 x0 x1 v8 x1 v21 σ7)))))))) else kX6_farTo_76 x0 x1 σ))
set_option maxRecDepth 20000 in
theorem ksX6_farTo_76 {l : Launch} {G : Gt} {n0 u0 : Nat} {Z : Int32 × Hp} (x0 : Nat) (x1 : Int32) (σ : Hp) (h : kX6_farTo_76 x0 x1 σ = some Z) : GoC l G RX6 "farTo" cX6_farTo 2 (some .int) 2 50 n0 u0 (some (.int Z.1)) Z.2 76 [(0, G.rv x0), (1, .int x1)] [] σ := by
  unfold kX6_farTo_76 at h
  refine GC.aload_n 0 dX6_farTo_76 rfl ?_
  refine GC.getr 6 10 rfl (by decide) (by decide) fw_X6_15 (Or.inl rfl) dX6_farTo_77 h (fun v1 h => ?_)
  refine GoC.iload_n 1 dX6_farTo_80 rfl ?_
  refine GC.iald dX6_farTo_81 h (fun v2 h => ?_)
  cases h
  exact GoC.iret dX6_farTo_82 rfl
set_option maxRecDepth 20000 in
theorem ksX6_farTo_75 {l : Launch} {G : Gt} {n0 u0 : Nat} {Z : Int32 × Hp} (x0 : Nat) (x1 : Int32) (y0 : Nat) (y1 : Int32) (y2 : Int32) (σ : Hp) (h : kX6_farTo_75 x0 x1 y0 y1 y2 σ = some Z) : GoC l G RX6 "farTo" cX6_farTo 2 (some .int) 2 50 n0 u0 (some (.int Z.1)) Z.2 75 [(0, G.rv x0), (1, .int x1)] [.int y2, .int y1, G.rv y0] σ := by
  unfold kX6_farTo_75 at h
  refine GC.iast dX6_farTo_75 h (fun σ3 h => ?_)
  exact ksX6_farTo_76 _ _ _ h
set_option maxRecDepth 20000 in
theorem ksX6_farTo {l : Launch} {G : Gt} {n0 u0 : Nat} {σ : Hp} {Z : Int32 × Hp} (x0 : Nat) (x1 : Int32) (h : kX6_farTo σ x0 x1 = some Z) : GoC l G RX6 "farTo" cX6_farTo 2 (some .int) 2 50 n0 u0 (some (.int Z.1)) Z.2 0 [(0, G.rv x0), (1, .int x1)] [] σ := by
  unfold kX6_farTo at h
  refine GC.aload_n 0 dX6_farTo_0 rfl ?_
  refine GC.getr 6 10 rfl (by decide) (by decide) fw_X6_15 (Or.inl rfl) dX6_farTo_1 h (fun v4 h => ?_)
  refine GoC.iload_n 1 dX6_farTo_4 rfl ?_
  refine GC.iald dX6_farTo_5 h (fun v5 h => ?_)
  refine GoC.iconst (-1) dX6_farTo_6 (by decide) ?_
  refine GoC.icmp_ne 76 dX6_farTo_7 (by decide) h (fun h => ?_) (fun h => ?_)
  · exact ksX6_farTo_76 _ _ _ h
  · refine GC.aload_n 0 dX6_farTo_10 rfl ?_
    refine GoC.dup dX6_farTo_11 (G.rv_cat _) ?_
    refine GC.geti 6 14 rfl (by decide) (by decide) fw_X6_59 (Or.inl rfl) dX6_farTo_12 h (fun v6 h => ?_)
    refine GoC.iconst 1 dX6_farTo_15 (by decide) ?_
    refine GoC.iadd dX6_farTo_16 ?_
    refine GC.puti 6 14 rfl (by decide) (by decide) (rfl) fw_X6_59 (Or.inl rfl) (Or.inl rfl) dX6_farTo_17 h (fun σ7 h => ?_)
    refine GC.aload_n 0 dX6_farTo_20 rfl ?_
    refine GC.getr 6 10 rfl (by decide) (by decide) fw_X6_15 (Or.inl rfl) dX6_farTo_21 h (fun v8 h => ?_)
    refine GoC.iload_n 1 dX6_farTo_24 rfl ?_
    refine GC.aload_n 0 dX6_farTo_25 rfl ?_
    refine GC.geti 6 4 rfl (by decide) (by decide) fw_X6_9 (Or.inl rfl) dX6_farTo_26 h (fun v9 h => ?_)
    refine GoC.iconst (-1) dX6_farTo_29 (by decide) ?_
    refine GoC.icmp_eq 48 dX6_farTo_30 (by decide) h (fun h => ?_) (fun h => ?_)
    · refine GC.aload_n 0 dX6_farTo_48 rfl ?_
      refine GC.getr 6 2 rfl (by decide) (by decide) fw_X6_33 (Or.inl rfl) dX6_farTo_49 h (fun v10 h => ?_)
      refine GC.aload_n 0 dX6_farTo_52 rfl ?_
      refine GC.getr 6 0 rfl (by decide) (by decide) fw_X6_25 (Or.inl rfl) dX6_farTo_53 h (fun v11 h => ?_)
      refine GC.geti 7 6 rfl (by decide) (by decide) fw_X6_153 (Or.inl rfl) dX6_farTo_56 h (fun v12 h => ?_)
      refine GC.aload_n 0 dX6_farTo_59 rfl ?_
      refine GC.geti 6 3 rfl (by decide) (by decide) fw_X6_40 (Or.inl rfl) dX6_farTo_60 h (fun v13 h => ?_)
      refine GC.aload_n 0 dX6_farTo_63 rfl ?_
      refine GC.getr 6 0 rfl (by decide) (by decide) fw_X6_25 (Or.inl rfl) dX6_farTo_64 h (fun v14 h => ?_)
      refine GC.getr 7 0 rfl (by decide) (by decide) fw_X6_156 (Or.inl rfl) dX6_farTo_67 h (fun v15 h => ?_)
      refine GoC.iload_n 1 dX6_farTo_70 rfl ?_
      refine GC.iald dX6_farTo_71 h (fun v16 h => ?_)
      obtain ⟨h0, h⟩ := ckd_some h
      obtain ⟨v17, σ18, hq, h⟩ := bd2_some h
      refine GC.callvI (rest := [.int x1, G.rv v8]) 2 rfl h0 rfl [.int v12, .int v13, .int v16] dX6_farTo_72 kk_X6_159 km_X2_between.1 km_X2_between.2 (ktX2_between _ _ _ _ _ hq) rfl rfl (Nat.le_of_ble_eq_true rfl) (Nat.le_of_ble_eq_true rfl) ⟨rfl, G.rv_cat _, trivial⟩ (Nat.le_of_ble_eq_true rfl) ?_
      exact ksX6_farTo_75 _ _ _ _ _ _ h
    · refine GC.aload_n 0 dX6_farTo_33 rfl ?_
      refine GC.getr 6 1 rfl (by decide) (by decide) fw_X6_29 (Or.inl rfl) dX6_farTo_34 h (fun v19 h => ?_)
      refine GC.aload_n 0 dX6_farTo_37 rfl ?_
      refine GC.geti 6 4 rfl (by decide) (by decide) fw_X6_9 (Or.inl rfl) dX6_farTo_38 h (fun v20 h => ?_)
      refine GoC.iload_n 1 dX6_farTo_41 rfl ?_
      obtain ⟨h0, h⟩ := ckd_some h
      obtain ⟨v21, hq, h⟩ := Option.bind_eq_some_iff.mp h
      refine GC.callvI (rest := [.int x1, G.rv v8]) 1 rfl h0 rfl [.int v20, .int x1] dX6_farTo_42 kk_X6_148 km_X1_of.1 km_X1_of.2 (ktX1_of _ _ _ _ hq) rfl rfl (Nat.le_of_ble_eq_true rfl) (Nat.le_of_ble_eq_true rfl) ⟨rfl, G.rv_cat _, trivial⟩ (Nat.le_of_ble_eq_true rfl) ?_
      refine GoC.goto 75 dX6_farTo_45 (by decide) ?_
      exact ksX6_farTo_75 _ _ _ _ _ _ h
set_option maxRecDepth 20000 in
theorem ktX6_farTo {l : Launch} {G : Gt} {σ : Hp} (x0 : Nat) (x1 : Int32) : ∀ Z, kX6_farTo σ x0 x1 = some Z → MtC l G yX6_farTo cX6_farTo 2 (some .int) 2 50 [G.rv x0, .int x1] σ (some (.int Z.1)) Z.2 := fun Z h => MtC.at (by decide +kernel) ⟨G.rv_cat _, rfl, trivial⟩ (Nat.le_of_ble_eq_true rfl) (ksX6_farTo x0 x1 h)
/-! X6_isAhead -/
def kX6_isAhead_30 (σ : Hp)   : Option (Int32) := zb 1
def kX6_isAhead (σ : Hp) (x0 : Nat) (x1 : Int32) (x2 : Int32) (x3 : Int32) : Option (Int32) := (gfr σ 16 611 x0).bind (fun v1 => (ald σ 1 v1 x3).bind (fun v2 => if x1 < v2 then kX6_isAhead_30 σ else (gfr σ 16 611 x0).bind (fun v3 => (ald σ 1 v3 x3).bind (fun v4 => if x1 = v4 then (gfr σ 16 612 x0).bind (fun v5 => (ald σ 1 v5 x3).bind (fun v6 => if v6 ≤ x2 then zb 0 else kX6_isAhead_30 σ)) else zb 0))))
set_option maxRecDepth 20000 in
theorem ksX6_isAhead_30 {l : Launch} {G : Gt} {n0 u0 : Nat} {σ : Hp} {Z : Int32}  (h : kX6_isAhead_30 σ  = some Z) : GoC l G RX6 "isAhead" cX6_isAhead 4 (some .boolean) 0 0 n0 u0 (some (.int Z)) σ 30 [] [] σ := by
  unfold kX6_isAhead_30 at h
  refine GoC.iconst 1 dX6_isAhead_30 (by decide) ?_
  refine GoC.goto 35 dX6_isAhead_31 (by decide) ?_
  exact GoC.zret dX6_isAhead_35 rfl h
set_option maxRecDepth 20000 in
theorem ksX6_isAhead {l : Launch} {G : Gt} {n0 u0 : Nat} {σ : Hp} {Z : Int32} (x0 : Nat) (x1 : Int32) (x2 : Int32) (x3 : Int32) (h : kX6_isAhead σ x0 x1 x2 x3 = some Z) : GoC l G RX6 "isAhead" cX6_isAhead 4 (some .boolean) 0 0 n0 u0 (some (.int Z)) σ 0 [(0, G.rv x0), (1, .int x1), (2, .int x2), (3, .int x3)] [] σ := by
  unfold kX6_isAhead at h
  refine GoC.iload_n 1 dX6_isAhead_0 rfl ?_
  refine GC.aload_n 0 dX6_isAhead_1 rfl ?_
  refine GC.getr 6 11 rfl (by decide) (by decide) fw_X6_19 (Or.inl rfl) dX6_isAhead_2 h (fun v1 h => ?_)
  refine GoC.iload_n 3 dX6_isAhead_5 rfl ?_
  refine GC.iald dX6_isAhead_6 h (fun v2 h => ?_)
  refine GoC.icmp_lt 30 dX6_isAhead_7 (by decide) h (fun h => ?_) (fun h => ?_)
  · refine GoC.sub [] rfl ?_
    exact ksX6_isAhead_30  h
  · refine GoC.iload_n 1 dX6_isAhead_10 rfl ?_
    refine GC.aload_n 0 dX6_isAhead_11 rfl ?_
    refine GC.getr 6 11 rfl (by decide) (by decide) fw_X6_19 (Or.inl rfl) dX6_isAhead_12 h (fun v3 h => ?_)
    refine GoC.iload_n 3 dX6_isAhead_15 rfl ?_
    refine GC.iald dX6_isAhead_16 h (fun v4 h => ?_)
    refine GoC.icmp_ne 34 dX6_isAhead_17 (by decide) h (fun h => ?_) (fun h => ?_)
    · refine GoC.iconst 0 dX6_isAhead_34 (by decide) ?_
      exact GoC.zret dX6_isAhead_35 rfl h
    · refine GoC.iload_n 2 dX6_isAhead_20 rfl ?_
      refine GC.aload_n 0 dX6_isAhead_21 rfl ?_
      refine GC.getr 6 12 rfl (by decide) (by decide) fw_X6_22 (Or.inl rfl) dX6_isAhead_22 h (fun v5 h => ?_)
      refine GoC.iload_n 3 dX6_isAhead_25 rfl ?_
      refine GC.iald dX6_isAhead_26 h (fun v6 h => ?_)
      refine GoC.icmp_ge 34 dX6_isAhead_27 (by decide) h (fun h => ?_) (fun h => ?_)
      · refine GoC.iconst 0 dX6_isAhead_34 (by decide) ?_
        exact GoC.zret dX6_isAhead_35 rfl h
      · refine GoC.sub [] rfl ?_
        exact ksX6_isAhead_30  h
set_option maxRecDepth 20000 in
theorem ktX6_isAhead {l : Launch} {G : Gt} {σ : Hp} (x0 : Nat) (x1 : Int32) (x2 : Int32) (x3 : Int32) : ∀ Z, kX6_isAhead σ x0 x1 x2 x3 = some Z → MtC l G yX6_isAhead cX6_isAhead 4 (some .boolean) 0 0 [G.rv x0, .int x1, .int x2, .int x3] σ (some (.int Z)) σ := fun Z h => MtC.at (by decide +kernel) ⟨G.rv_cat _, rfl, rfl, rfl, trivial⟩ (Nat.le_of_ble_eq_true rfl) (ksX6_isAhead x0 x1 x2 x3 h)
/-! X6_take -/
def kX6_take_99  : Nat → Nat → Int32 → Int32 → Int32 → Int32 → Hp → Option (Hp)
  | 0, _, _, _, _, _, _ => none
  | n + 1, x0, x1, x2, x3, x4, σ => if x4 ≤ x3 then (gfr σ 16 612 x0).bind (fun v1 => (ast σ 1 v1 x3 x1).bind (fun σ2 => (gfr σ2 16 611 x0).bind (fun v3 => (ast σ2 1 v3 x3 x2).bind (fun σ4 => (gfi σ4 16 606 x0).bind (fun v5 => if v5 = 0 then (gfr σ4 16 611 x0).bind (fun v6 => (gfi σ4 16 613 x0).bind (fun v7 => (ald σ4 1 v6 (v7 - 1)).bind (fun v8 => (pfi σ4 16 607 x0 v8).bind (fun σ9 => some σ9)))) else some σ4))))) else (gfr σ 16 612 x0).bind (fun v10 => (gfr σ 16 612 x0).bind (fun v11 => (ald σ 1 v11 (x4 - 1)).bind (fun v12 => (ast σ 1 v10 x4 v12).bind (fun σ13 => (gfr σ13 16 611 x0).bind (fun v14 => (gfr σ13 16 611 x0).bind (fun v15 => (ald σ13 1 v15 (x4 - 1)).bind (fun v16 => (ast σ13 1 v14 x4 v16).bind (fun σ17 => kX6_take_99 n x0 x1 x2 x3 (x4 + (-1)) σ17))))))))
def kX6_take_88  (x0 : Nat) (x1 : Int32) (x2 : Int32) (x3 : Int32) (y0 : Nat) (y1 : Int32) (σ : Hp) : Option (Hp) := (pfi σ 16 613 y0 y1).bind (fun σ18 => (gfi σ18 16 613 x0).bind (fun v19 => kX6_take_99 FU x0 x1 x2 x3 (v19 - 1) σ18))
def kX6_take_54  (x0 : Nat) (x1 : Int32) (x2 : Int32) (x3 : Int32) (σ : Hp) : Option (Hp) := (gfi σ 16 608 x0).bind (fun v20 => if x3 < v20 then (gfi σ 16 613 x0).bind (fun v21 => (gfi σ 16 608 x0).bind (fun v22 => if v22 ≤ v21 then (gfi σ 16 608 x0).bind (fun v23 => kX6_take_88 x0 x1 x2 x3 x0 v23 σ) else (gfi σ 16 613 x0).bind (fun v24 => kX6_take_88 x0 x1 x2 x3 x0 (v24 + 1) σ))) else some σ)
def kX6_take_29  : Nat → Nat → Int32 → Int32 → Int32 → Int32 → Hp → Option (Hp)
  | 0, _, _, _, _, _, _ => none
  | n + 1, x0, x1, x2, x3, x4, σ => if x4 < 0 then kX6_take_54 x0 x1 x2 x3 σ else ckd σ x0 16 ((kX6_isAhead σ x0 x2 x1 x4).bind (fun v25 => if v25 = 0 then kX6_take_54 x0 x1 x2 x3 σ else kX6_take_29 n x0 x1 x2 x4 (x4 + (-1)) σ))
def kX6_take_16  (x0 : Nat) (x1 : Int32) (x2 : Int32) (σ : Hp) : Option (Hp) := (gfi σ 16 613 x0).bind (fun v26 => (gfi σ 16 613 x0).bind (fun v27 => kX6_take_29 FU x0 x1 x2 v26 (v27 - 1) σ))
def kX6_take (σ : Hp) (x0 : Nat) (x1 : Int32) (x2 : Int32) : Option (Hp) := (gfi σ 16 606 x0).bind (fun v28 => if v28 = 0 then kX6_take_16 x0 x1 x2 σ else (gfi σ 16 607 x0).bind (fun v29 => if x2 ≤ v29 then kX6_take_16 x0 x1 x2 σ else some σ))
set_option maxRecDepth 20000 in
theorem ksX6_take_99 {l : Launch} {G : Gt} {n0 u0 : Nat} {Z : Hp} (n : Nat) : ∀ (x0 : Nat) (x1 : Int32) (x2 : Int32) (x3 : Int32) (x4 : Int32) (σ : Hp), kX6_take_99 n x0 x1 x2 x3 x4 σ = some Z → GoC l G RX6 "take" cX6_take 5 none 1 23 n0 u0 none Z 99 [(0, G.rv x0), (1, .int x1), (2, .int x2), (3, .int x3), (4, .int x4)] [] σ := by
  induction n with
  | zero => intro x0 x1 x2 x3 x4 σ h; rw [kX6_take_99] at h; cases h
  | succ n ih =>
    intro x0 x1 x2 x3 x4 σ h
    rw [kX6_take_99] at h
    refine GoC.iload 4 dX6_take_99 rfl ?_
    refine GoC.iload_n 3 dX6_take_101 rfl ?_
    refine GoC.icmp_le 143 dX6_take_102 (by decide) h (fun h => ?_) (fun h => ?_)
    · refine GC.aload_n 0 dX6_take_143 rfl ?_
      refine GC.getr 6 12 rfl (by decide) (by decide) fw_X6_22 (Or.inl rfl) dX6_take_144 h (fun v1 h => ?_)
      refine GoC.iload_n 3 dX6_take_147 rfl ?_
      refine GoC.iload_n 1 dX6_take_148 rfl ?_
      refine GC.iast dX6_take_149 h (fun σ2 h => ?_)
      refine GC.aload_n 0 dX6_take_150 rfl ?_
      refine GC.getr 6 11 rfl (by decide) (by decide) fw_X6_19 (Or.inl rfl) dX6_take_151 h (fun v3 h => ?_)
      refine GoC.iload_n 3 dX6_take_154 rfl ?_
      refine GoC.iload_n 2 dX6_take_155 rfl ?_
      refine GC.iast dX6_take_156 h (fun σ4 h => ?_)
      refine GC.aload_n 0 dX6_take_157 rfl ?_
      refine GC.geti 6 6 rfl (by decide) (by decide) fw_X6_47 (Or.inl rfl) dX6_take_158 h (fun v5 h => ?_)
      refine GoC.if_ne 179 dX6_take_161 (by decide) h (fun h => ?_) (fun h => ?_)
      · cases h
        exact GoC.vret dX6_take_179 rfl
      · refine GC.aload_n 0 dX6_take_164 rfl ?_
        refine GC.aload_n 0 dX6_take_165 rfl ?_
        refine GC.getr 6 11 rfl (by decide) (by decide) fw_X6_19 (Or.inl rfl) dX6_take_166 h (fun v6 h => ?_)
        refine GC.aload_n 0 dX6_take_169 rfl ?_
        refine GC.geti 6 13 rfl (by decide) (by decide) fw_X6_37 (Or.inl rfl) dX6_take_170 h (fun v7 h => ?_)
        refine GoC.iconst 1 dX6_take_173 (by decide) ?_
        refine GoC.isub dX6_take_174 ?_
        refine GC.iald dX6_take_175 h (fun v8 h => ?_)
        refine GC.puti 6 7 rfl (by decide) (by decide) (rfl) fw_X6_50 (Or.inl rfl) (Or.inl rfl) dX6_take_176 h (fun σ9 h => ?_)
        cases h
        exact GoC.vret dX6_take_179 rfl
    · refine GC.aload_n 0 dX6_take_105 rfl ?_
      refine GC.getr 6 12 rfl (by decide) (by decide) fw_X6_22 (Or.inl rfl) dX6_take_106 h (fun v10 h => ?_)
      refine GoC.iload 4 dX6_take_109 rfl ?_
      refine GC.aload_n 0 dX6_take_111 rfl ?_
      refine GC.getr 6 12 rfl (by decide) (by decide) fw_X6_22 (Or.inl rfl) dX6_take_112 h (fun v11 h => ?_)
      refine GoC.iload 4 dX6_take_115 rfl ?_
      refine GoC.iconst 1 dX6_take_117 (by decide) ?_
      refine GoC.isub dX6_take_118 ?_
      refine GC.iald dX6_take_119 h (fun v12 h => ?_)
      refine GC.iast dX6_take_120 h (fun σ13 h => ?_)
      refine GC.aload_n 0 dX6_take_121 rfl ?_
      refine GC.getr 6 11 rfl (by decide) (by decide) fw_X6_19 (Or.inl rfl) dX6_take_122 h (fun v14 h => ?_)
      refine GoC.iload 4 dX6_take_125 rfl ?_
      refine GC.aload_n 0 dX6_take_127 rfl ?_
      refine GC.getr 6 11 rfl (by decide) (by decide) fw_X6_19 (Or.inl rfl) dX6_take_128 h (fun v15 h => ?_)
      refine GoC.iload 4 dX6_take_131 rfl ?_
      refine GoC.iconst 1 dX6_take_133 (by decide) ?_
      refine GoC.isub dX6_take_134 ?_
      refine GC.iald dX6_take_135 h (fun v16 h => ?_)
      refine GC.iast dX6_take_136 h (fun σ17 h => ?_)
      refine GoC.iinc (w := (-1)) 4 [(0, G.rv x0), (1, .int x1), (2, .int x2), (3, .int x3), (4, .int (x4 + (-1)))] dX6_take_137 rfl (by decide) (by decide) rfl ?_
      refine GoC.goto 99 dX6_take_140 (by decide) ?_
      exact ih _ _ _ _ _ _ h
set_option maxRecDepth 20000 in
theorem ksX6_take_88 {l : Launch} {G : Gt} {n0 u0 : Nat} {Z : Hp} (x0 : Nat) (x1 : Int32) (x2 : Int32) (x3 : Int32) (y0 : Nat) (y1 : Int32) (σ : Hp) (h : kX6_take_88 x0 x1 x2 x3 y0 y1 σ = some Z) : GoC l G RX6 "take" cX6_take 5 none 1 23 n0 u0 none Z 88 [(0, G.rv x0), (1, .int x1), (2, .int x2), (3, .int x3)] [.int y1, G.rv y0] σ := by
  unfold kX6_take_88 at h
  refine GC.puti 6 13 rfl (by decide) (by decide) (rfl) fw_X6_37 (Or.inl rfl) (Or.inl rfl) dX6_take_88 h (fun σ18 h => ?_)
  refine GC.aload_n 0 dX6_take_91 rfl ?_
  refine GC.geti 6 13 rfl (by decide) (by decide) fw_X6_37 (Or.inl rfl) dX6_take_92 h (fun v19 h => ?_)
  refine GoC.iconst 1 dX6_take_95 (by decide) ?_
  refine GoC.isub dX6_take_96 ?_
  refine GoC.istore [(0, G.rv x0), (1, .int x1), (2, .int x2), (3, .int x3), (4, .int (v19 - 1))] dX6_take_97 (by decide) rfl ?_
  exact ksX6_take_99 _ _ _ _ _ _ _ h
set_option maxRecDepth 20000 in
theorem ksX6_take_54 {l : Launch} {G : Gt} {n0 u0 : Nat} {Z : Hp} (x0 : Nat) (x1 : Int32) (x2 : Int32) (x3 : Int32) (σ : Hp) (h : kX6_take_54 x0 x1 x2 x3 σ = some Z) : GoC l G RX6 "take" cX6_take 5 none 1 23 n0 u0 none Z 54 [(0, G.rv x0), (1, .int x1), (2, .int x2), (3, .int x3)] [] σ := by
  unfold kX6_take_54 at h
  refine GoC.iload_n 3 dX6_take_54 rfl ?_
  refine GC.aload_n 0 dX6_take_55 rfl ?_
  refine GC.geti 6 8 rfl (by decide) (by decide) fw_X6_53 (Or.inl rfl) dX6_take_56 h (fun v20 h => ?_)
  refine GoC.icmp_lt 63 dX6_take_59 (by decide) h (fun h => ?_) (fun h => ?_)
  · refine GC.aload_n 0 dX6_take_63 rfl ?_
    refine GC.aload_n 0 dX6_take_64 rfl ?_
    refine GC.geti 6 13 rfl (by decide) (by decide) fw_X6_37 (Or.inl rfl) dX6_take_65 h (fun v21 h => ?_)
    refine GC.aload_n 0 dX6_take_68 rfl ?_
    refine GC.geti 6 8 rfl (by decide) (by decide) fw_X6_53 (Or.inl rfl) dX6_take_69 h (fun v22 h => ?_)
    refine GoC.icmp_ge 84 dX6_take_72 (by decide) h (fun h => ?_) (fun h => ?_)
    · refine GC.aload_n 0 dX6_take_84 rfl ?_
      refine GC.geti 6 8 rfl (by decide) (by decide) fw_X6_53 (Or.inl rfl) dX6_take_85 h (fun v23 h => ?_)
      exact ksX6_take_88 _ _ _ _ _ _ _ h
    · refine GC.aload_n 0 dX6_take_75 rfl ?_
      refine GC.geti 6 13 rfl (by decide) (by decide) fw_X6_37 (Or.inl rfl) dX6_take_76 h (fun v24 h => ?_)
      refine GoC.iconst 1 dX6_take_79 (by decide) ?_
      refine GoC.iadd dX6_take_80 ?_
      refine GoC.goto 88 dX6_take_81 (by decide) ?_
      exact ksX6_take_88 _ _ _ _ _ _ _ h
  · cases h
    exact GoC.vret dX6_take_62 rfl
set_option maxRecDepth 20000 in
theorem ksX6_take_29 {l : Launch} {G : Gt} {n0 u0 : Nat} {Z : Hp} (n : Nat) : ∀ (x0 : Nat) (x1 : Int32) (x2 : Int32) (x3 : Int32) (x4 : Int32) (σ : Hp), kX6_take_29 n x0 x1 x2 x3 x4 σ = some Z → GoC l G RX6 "take" cX6_take 5 none 1 23 n0 u0 none Z 29 [(0, G.rv x0), (1, .int x1), (2, .int x2), (3, .int x3), (4, .int x4)] [] σ := by
  induction n with
  | zero => intro x0 x1 x2 x3 x4 σ h; rw [kX6_take_29] at h; cases h
  | succ n ih =>
    intro x0 x1 x2 x3 x4 σ h
    rw [kX6_take_29] at h
    refine GoC.iload 4 dX6_take_29 rfl ?_
    refine GoC.if_lt 54 dX6_take_31 (by decide) h (fun h => ?_) (fun h => ?_)
    · refine GoC.sub [0, 1, 2, 3] rfl ?_
      exact ksX6_take_54 _ _ _ _ _ h
    · refine GC.aload_n 0 dX6_take_34 rfl ?_
      refine GoC.iload_n 2 dX6_take_35 rfl ?_
      refine GoC.iload_n 1 dX6_take_36 rfl ?_
      refine GoC.iload 4 dX6_take_37 rfl ?_
      obtain ⟨h0, h⟩ := ckd_some h
      obtain ⟨v25, hq, h⟩ := Option.bind_eq_some_iff.mp h
      refine GC.callvI (rest := []) 6 rfl h0 rfl [.int x2, .int x1, .int x4] dX6_take_39 kk_X6_165 km_X6_isAhead.1 km_X6_isAhead.2 (ktX6_isAhead _ _ _ _ _ hq) rfl rfl (Nat.le_of_ble_eq_true rfl) (Nat.le_of_ble_eq_true rfl) trivial (Nat.le_of_ble_eq_true rfl) ?_
      refine GoC.if_eq 54 dX6_take_42 (by decide) h (fun h => ?_) (fun h => ?_)
      · refine GoC.sub [0, 1, 2, 3] rfl ?_
        exact ksX6_take_54 _ _ _ _ _ h
      · refine GoC.iload 4 dX6_take_45 rfl ?_
        refine GoC.istore_n [(0, G.rv x0), (1, .int x1), (2, .int x2), (3, .int x4), (4, .int x4)] dX6_take_47 (by decide) rfl ?_
        refine GoC.iinc (w := (-1)) 4 [(0, G.rv x0), (1, .int x1), (2, .int x2), (3, .int x4), (4, .int (x4 + (-1)))] dX6_take_48 rfl (by decide) (by decide) rfl ?_
        refine GoC.goto 29 dX6_take_51 (by decide) ?_
        exact ih _ _ _ _ _ _ h
set_option maxRecDepth 20000 in
theorem ksX6_take_16 {l : Launch} {G : Gt} {n0 u0 : Nat} {Z : Hp} (x0 : Nat) (x1 : Int32) (x2 : Int32) (σ : Hp) (h : kX6_take_16 x0 x1 x2 σ = some Z) : GoC l G RX6 "take" cX6_take 5 none 1 23 n0 u0 none Z 16 [(0, G.rv x0), (1, .int x1), (2, .int x2)] [] σ := by
  unfold kX6_take_16 at h
  refine GC.aload_n 0 dX6_take_16 rfl ?_
  refine GC.geti 6 13 rfl (by decide) (by decide) fw_X6_37 (Or.inl rfl) dX6_take_17 h (fun v26 h => ?_)
  refine GoC.istore_n [(0, G.rv x0), (1, .int x1), (2, .int x2), (3, .int v26)] dX6_take_20 (by decide) rfl ?_
  refine GC.aload_n 0 dX6_take_21 rfl ?_
  refine GC.geti 6 13 rfl (by decide) (by decide) fw_X6_37 (Or.inl rfl) dX6_take_22 h (fun v27 h => ?_)
  refine GoC.iconst 1 dX6_take_25 (by decide) ?_
  refine GoC.isub dX6_take_26 ?_
  refine GoC.istore [(0, G.rv x0), (1, .int x1), (2, .int x2), (3, .int v26), (4, .int (v27 - 1))] dX6_take_27 (by decide) rfl ?_
  exact ksX6_take_29 _ _ _ _ _ _ _ h
set_option maxRecDepth 20000 in
theorem ksX6_take {l : Launch} {G : Gt} {n0 u0 : Nat} {σ : Hp} {Z : Hp} (x0 : Nat) (x1 : Int32) (x2 : Int32) (h : kX6_take σ x0 x1 x2 = some Z) : GoC l G RX6 "take" cX6_take 5 none 1 23 n0 u0 none Z 0 [(0, G.rv x0), (1, .int x1), (2, .int x2)] [] σ := by
  unfold kX6_take at h
  refine GC.aload_n 0 dX6_take_0 rfl ?_
  refine GC.geti 6 6 rfl (by decide) (by decide) fw_X6_47 (Or.inl rfl) dX6_take_1 h (fun v28 h => ?_)
  refine GoC.if_eq 16 dX6_take_4 (by decide) h (fun h => ?_) (fun h => ?_)
  · exact ksX6_take_16 _ _ _ _ h
  · refine GoC.iload_n 2 dX6_take_7 rfl ?_
    refine GC.aload_n 0 dX6_take_8 rfl ?_
    refine GC.geti 6 7 rfl (by decide) (by decide) fw_X6_50 (Or.inl rfl) dX6_take_9 h (fun v29 h => ?_)
    refine GoC.icmp_le 16 dX6_take_12 (by decide) h (fun h => ?_) (fun h => ?_)
    · exact ksX6_take_16 _ _ _ _ h
    · cases h
      exact GoC.vret dX6_take_15 rfl
set_option maxRecDepth 20000 in
theorem ktX6_take {l : Launch} {G : Gt} {σ : Hp} (x0 : Nat) (x1 : Int32) (x2 : Int32) : ∀ Z, kX6_take σ x0 x1 x2 = some Z → MtC l G yX6_take cX6_take 5 none 1 23 [G.rv x0, .int x1, .int x2] σ none Z := fun Z h => MtC.at (by decide +kernel) ⟨G.rv_cat _, rfl, rfl, trivial⟩ (Nat.le_of_ble_eq_true rfl) (ksX6_take x0 x1 x2 h)
/-! X6_boundBelow -/
def kX6_boundBelow (σ : Hp) (x0 : Nat) (x1 : Int32) (x2 : Int32) : Option (Int32) := (gfi σ 16 605 x0).bind (fun v1 => if v1 = 0 then if x1 ≤ x2 then some 0 else some (x1 - x2) else some (-(x1 + x2)))
set_option maxRecDepth 20000 in
theorem ksX6_boundBelow {l : Launch} {G : Gt} {n0 u0 : Nat} {σ : Hp} {Z : Int32} (x0 : Nat) (x1 : Int32) (x2 : Int32) (h : kX6_boundBelow σ x0 x1 x2 = some Z) : GoC l G RX6 "boundBelow" cX6_boundBelow 3 (some .int) 0 0 n0 u0 (some (.int Z)) σ 0 [(0, G.rv x0), (1, .int x1), (2, .int x2)] [] σ := by
  unfold kX6_boundBelow at h
  refine GC.aload_n 0 dX6_boundBelow_0 rfl ?_
  refine GC.geti 6 5 rfl (by decide) (by decide) fw_X6_43 (Or.inl rfl) dX6_boundBelow_1 h (fun v1 h => ?_)
  refine GoC.if_eq 12 dX6_boundBelow_4 (by decide) h (fun h => ?_) (fun h => ?_)
  · refine GoC.iload_n 1 dX6_boundBelow_12 rfl ?_
    refine GoC.iload_n 2 dX6_boundBelow_13 rfl ?_
    refine GoC.icmp_le 23 dX6_boundBelow_14 (by decide) h (fun h => ?_) (fun h => ?_)
    · refine GoC.iconst 0 dX6_boundBelow_23 (by decide) ?_
      cases h
      exact GoC.iret dX6_boundBelow_24 rfl
    · refine GoC.iload_n 1 dX6_boundBelow_17 rfl ?_
      refine GoC.iload_n 2 dX6_boundBelow_18 rfl ?_
      refine GoC.isub dX6_boundBelow_19 ?_
      refine GoC.goto 24 dX6_boundBelow_20 (by decide) ?_
      cases h
      exact GoC.iret dX6_boundBelow_24 rfl
  · refine GoC.iload_n 1 dX6_boundBelow_7 rfl ?_
    refine GoC.iload_n 2 dX6_boundBelow_8 rfl ?_
    refine GoC.iadd dX6_boundBelow_9 ?_
    refine GoC.ineg dX6_boundBelow_10 ?_
    cases h
    exact GoC.iret dX6_boundBelow_11 rfl
set_option maxRecDepth 20000 in
theorem ktX6_boundBelow {l : Launch} {G : Gt} {σ : Hp} (x0 : Nat) (x1 : Int32) (x2 : Int32) : ∀ Z, kX6_boundBelow σ x0 x1 x2 = some Z → MtC l G yX6_boundBelow cX6_boundBelow 3 (some .int) 0 0 [G.rv x0, .int x1, .int x2] σ (some (.int Z)) σ := fun Z h => MtC.at (by decide +kernel) ⟨G.rv_cat _, rfl, rfl, trivial⟩ (Nat.le_of_ble_eq_true rfl) (ksX6_boundBelow x0 x1 x2 h)
/-! X6_goInto -/
def kX6_goInto_129 (k2 : Nat → Nat → Int32 → Hp → Option (Hp)) (x0 : Nat) (x1 : Nat) (x2 : Int32) (σ : Hp) : Option (Hp) := k2 x0 x1 (x2 + 1) σ
def kX6_goInto_82 (k2 : Nat → Nat → Int32 → Hp → Option (Hp)) (x0 : Nat) (x1 : Nat) (x2 : Int32) (y0 : Nat) (y1 : Int32) (y2 : Int32) (σ : Hp) : Option (Hp) := ckd σ y0 16 ((kX6_take σ y0 y1 y2).bind (fun σ1 => kX6_goInto_129 k2 x0 x1 x2 σ1))
def kX6_goInto_44 (k2 : Nat → Nat → Int32 → Hp → Option (Hp)) (x0 : Nat) (x1 : Nat) (x2 : Int32) (σ : Hp) : Option (Hp) := (gfr σ 13 303 x1).bind (fun v2 => (ald σ 1 v2 x2).bind (fun v3 => ckd σ x0 16 (bd2 (kX6_farTo σ x0 v3) (fun v4 σ5 => (gfi σ5 13 300 x1).bind (fun v6 => if v6 = 0 then (gfr σ5 13 304 x1).bind (fun v7 => (ald σ5 1 v7 x2).bind (fun v8 => ckd σ5 x0 16 ((kX6_boundBelow σ5 x0 v4 v8).bind (fun v9 => ckd σ5 x0 16 ((kX6_isBeyond σ5 x0 v9).bind (fun v10 => if v10 = 0 then (gfr σ5 16 600 x0).bind (fun v11 => (gfr σ5 13 305 x1).bind (fun v12 => (ald σ5 1 v12 x2).bind (fun v13 => ckd σ5 v11 17 ((kX7_at σ5 v11 v13).bind (fun v14 => ckd σ5 x0 16 ((kX6_letWait σ5 x0 v14 v9).bind (fun σ15 => kX6_goInto_129 k2 x0 x1 x2 σ15))))))) else kX6_goInto_129 k2 x0 x1 x2 σ5)))))) else (gfr σ5 13 303 x1).bind (fun v16 => (ald σ5 1 v16 x2).bind (fun v17 => (gfi σ5 16 605 x0).bind (fun v18 => if v18 = 0 then kX6_goInto_82 k2 x0 x1 x2 x0 v17 v4 σ5 else kX6_goInto_82 k2 x0 x1 x2 x0 v17 (-v4) σ5))))))))
def kX6_goInto_2  : Nat → Nat → Nat → Int32 → Hp → Option (Hp)
  | 0, _, _, _, _ => none
  | n + 1, x0, x1, x2, σ => (gfi σ 13 302 x1).bind (fun v19 => if v19 ≤ x2 then some σ else (gfi σ 13 301 x1).bind (fun v20 => if v20 = (-1) then kX6_goInto_44 (kX6_goInto_2 n) x0 x1 x2 σ else ckd σ x0 16 ((kX6_leastRank σ x0 x1 x2).bind (fun v21 => ckd σ x0 16 ((kX6_isBeyond σ x0 v21).bind (fun v22 => if v22 = 0 then kX6_goInto_44 (kX6_goInto_2 n) x0 x1 x2 σ else (gfi σ 16 615 x0).bind (fun v23 => (pfi σ 16 615 x0 (v23 + 1)).bind (fun σ24 => kX6_goInto_129 (kX6_goInto_2 n) x0 x1 x2 σ24))))))))
def kX6_goInto (σ : Hp) (x0 : Nat) (x1 : Nat) : Option (Hp) := kX6_goInto_2 FU x0 x1 0 σ
set_option maxRecDepth 20000 in
theorem ksX6_goInto_129 {l : Launch} {G : Gt} {n0 u0 : Nat} {Z : Hp} (k2 : Nat → Nat → Int32 → Hp → Option (Hp)) (h2 : ∀ (x0 : Nat) (x1 : Nat) (x2 : Int32) (σ : Hp), k2 x0 x1 x2 σ = some Z → GoC l G RX6 "goInto" cX6_goInto 5 none 4 85 n0 u0 none Z 2 [(0, G.rv x0), (1, G.rv x1), (2, .int x2)] [] σ) (x0 : Nat) (x1 : Nat) (x2 : Int32) (σ : Hp) (h : kX6_goInto_129 k2 x0 x1 x2 σ = some Z) : GoC l G RX6 "goInto" cX6_goInto 5 none 4 85 n0 u0 none Z 129 [(0, G.rv x0), (1, G.rv x1), (2, .int x2)] [] σ := by
  unfold kX6_goInto_129 at h
  refine GoC.iinc (w := 1) 2 [(0, G.rv x0), (1, G.rv x1), (2, .int (x2 + 1))] dX6_goInto_129 rfl (by decide) (by decide) rfl ?_
  refine GoC.goto 2 dX6_goInto_132 (by decide) ?_
  exact h2 _ _ _ _ h
set_option maxRecDepth 20000 in
theorem ksX6_goInto_82 {l : Launch} {G : Gt} {n0 u0 : Nat} {Z : Hp} (k2 : Nat → Nat → Int32 → Hp → Option (Hp)) (h2 : ∀ (x0 : Nat) (x1 : Nat) (x2 : Int32) (σ : Hp), k2 x0 x1 x2 σ = some Z → GoC l G RX6 "goInto" cX6_goInto 5 none 4 85 n0 u0 none Z 2 [(0, G.rv x0), (1, G.rv x1), (2, .int x2)] [] σ) (x0 : Nat) (x1 : Nat) (x2 : Int32) (y0 : Nat) (y1 : Int32) (y2 : Int32) (σ : Hp) (h : kX6_goInto_82 k2 x0 x1 x2 y0 y1 y2 σ = some Z) : GoC l G RX6 "goInto" cX6_goInto 5 none 4 85 n0 u0 none Z 82 [(0, G.rv x0), (1, G.rv x1), (2, .int x2)] [.int y2, .int y1, G.rv y0] σ := by
  unfold kX6_goInto_82 at h
  obtain ⟨h0, h⟩ := ckd_some h
  obtain ⟨σ1, hq, h⟩ := Option.bind_eq_some_iff.mp h
  refine GC.callvV (rest := []) 6 rfl h0 rfl [.int y1, .int y2] dX6_goInto_82 kk_X6_134 km_X6_take.1 km_X6_take.2 (ktX6_take _ _ _ _ hq) rfl rfl (Nat.le_of_ble_eq_true rfl) (Nat.le_of_ble_eq_true rfl) trivial (Nat.le_of_ble_eq_true rfl) ?_
  refine GoC.goto 129 dX6_goInto_85 (by decide) ?_
  exact ksX6_goInto_129 _ h2 _ _ _ _ h
set_option maxRecDepth 20000 in
theorem ksX6_goInto_44 {l : Launch} {G : Gt} {n0 u0 : Nat} {Z : Hp} (k2 : Nat → Nat → Int32 → Hp → Option (Hp)) (h2 : ∀ (x0 : Nat) (x1 : Nat) (x2 : Int32) (σ : Hp), k2 x0 x1 x2 σ = some Z → GoC l G RX6 "goInto" cX6_goInto 5 none 4 85 n0 u0 none Z 2 [(0, G.rv x0), (1, G.rv x1), (2, .int x2)] [] σ) (x0 : Nat) (x1 : Nat) (x2 : Int32) (σ : Hp) (h : kX6_goInto_44 k2 x0 x1 x2 σ = some Z) : GoC l G RX6 "goInto" cX6_goInto 5 none 4 85 n0 u0 none Z 44 [(0, G.rv x0), (1, G.rv x1), (2, .int x2)] [] σ := by
  unfold kX6_goInto_44 at h
  refine GC.aload_n 0 dX6_goInto_44 rfl ?_
  refine GC.aload_n 1 dX6_goInto_45 rfl ?_
  refine GC.getr 3 3 rfl (by decide) (by decide) fw_X6_124 (Or.inl rfl) dX6_goInto_46 h (fun v2 h => ?_)
  refine GoC.iload_n 2 dX6_goInto_49 rfl ?_
  refine GC.iald dX6_goInto_50 h (fun v3 h => ?_)
  obtain ⟨h0, h⟩ := ckd_some h
  obtain ⟨v4, σ5, hq, h⟩ := bd2_some h
  refine GC.callvI (rest := []) 6 rfl h0 rfl [.int v3] dX6_goInto_51 kk_X6_127 km_X6_farTo.1 km_X6_farTo.2 (ktX6_farTo _ _ _ hq) rfl rfl (Nat.le_of_ble_eq_true rfl) (Nat.le_of_ble_eq_true rfl) trivial (Nat.le_of_ble_eq_true rfl) ?_
  refine GoC.istore_n [(0, G.rv x0), (1, G.rv x1), (2, .int x2), (3, .int v4)] dX6_goInto_54 (by decide) rfl ?_
  refine GC.aload_n 1 dX6_goInto_55 rfl ?_
  refine GC.geti 3 0 rfl (by decide) (by decide) fw_X6_131 (Or.inl rfl) dX6_goInto_56 h (fun v6 h => ?_)
  refine GoC.if_eq 88 dX6_goInto_59 (by decide) h (fun h => ?_) (fun h => ?_)
  · refine GC.aload_n 0 dX6_goInto_88 rfl ?_
    refine GoC.iload_n 3 dX6_goInto_89 rfl ?_
    refine GC.aload_n 1 dX6_goInto_90 rfl ?_
    refine GC.getr 3 4 rfl (by decide) (by decide) fw_X6_138 (Or.inl rfl) dX6_goInto_91 h (fun v7 h => ?_)
    refine GoC.iload_n 2 dX6_goInto_94 rfl ?_
    refine GC.iald dX6_goInto_95 h (fun v8 h => ?_)
    obtain ⟨h0, h⟩ := ckd_some h
    obtain ⟨v9, hq, h⟩ := Option.bind_eq_some_iff.mp h
    refine GC.callvI (rest := []) 6 rfl h0 rfl [.int v4, .int v8] dX6_goInto_96 kk_X6_141 km_X6_boundBelow.1 km_X6_boundBelow.2 (ktX6_boundBelow _ _ _ _ hq) rfl rfl (Nat.le_of_ble_eq_true rfl) (Nat.le_of_ble_eq_true rfl) trivial (Nat.le_of_ble_eq_true rfl) ?_
    refine GoC.istore [(0, G.rv x0), (1, G.rv x1), (2, .int x2), (3, .int v4), (4, .int v9)] dX6_goInto_99 (by decide) rfl ?_
    refine GC.aload_n 0 dX6_goInto_101 rfl ?_
    refine GoC.iload 4 dX6_goInto_102 rfl ?_
    obtain ⟨h0, h⟩ := ckd_some h
    obtain ⟨v10, hq, h⟩ := Option.bind_eq_some_iff.mp h
    refine GC.callvI (rest := []) 6 rfl h0 rfl [.int v9] dX6_goInto_104 kk_X6_105 km_X6_isBeyond.1 km_X6_isBeyond.2 (ktX6_isBeyond _ _ _ hq) rfl rfl (Nat.le_of_ble_eq_true rfl) (Nat.le_of_ble_eq_true rfl) trivial (Nat.le_of_ble_eq_true rfl) ?_
    refine GoC.if_ne 129 dX6_goInto_107 (by decide) h (fun h => ?_) (fun h => ?_)
    · refine GoC.sub [0, 1, 2] rfl ?_
      exact ksX6_goInto_129 _ h2 _ _ _ _ h
    · refine GC.aload_n 0 dX6_goInto_110 rfl ?_
      refine GC.aload_n 0 dX6_goInto_111 rfl ?_
      refine GC.getr 6 0 rfl (by decide) (by decide) fw_X6_25 (Or.inl rfl) dX6_goInto_112 h (fun v11 h => ?_)
      refine GC.aload_n 1 dX6_goInto_115 rfl ?_
      refine GC.getr 3 5 rfl (by decide) (by decide) fw_X6_145 (Or.inl rfl) dX6_goInto_116 h (fun v12 h => ?_)
      refine GoC.iload_n 2 dX6_goInto_119 rfl ?_
      refine GC.iald dX6_goInto_120 h (fun v13 h => ?_)
      obtain ⟨h0, h⟩ := ckd_some h
      obtain ⟨v14, hq, h⟩ := Option.bind_eq_some_iff.mp h
      refine GC.callvR (rest := [G.rv x0]) 7 rfl h0 rfl [.int v13] dX6_goInto_121 kk_X6_82 km_X7_at.1 km_X7_at.2 (ktX7_at _ _ _ hq) rfl rfl (Nat.le_of_ble_eq_true rfl) (Nat.le_of_ble_eq_true rfl) ⟨G.rv_cat _, trivial⟩ (Nat.le_of_ble_eq_true rfl) ?_
      refine GoC.iload 4 dX6_goInto_124 rfl ?_
      obtain ⟨h0, h⟩ := ckd_some h
      obtain ⟨σ15, hq, h⟩ := Option.bind_eq_some_iff.mp h
      refine GC.callvV (rest := []) 6 rfl h0 rfl [G.rv v14, .int v9] dX6_goInto_126 kk_X6_94 km_X6_letWait.1 km_X6_letWait.2 (ktX6_letWait _ _ _ _ hq) rfl rfl (Nat.le_of_ble_eq_true rfl) (Nat.le_of_ble_eq_true rfl) trivial (Nat.le_of_ble_eq_true rfl) ?_
      refine GoC.sub [0, 1, 2] rfl ?_
      exact ksX6_goInto_129 _ h2 _ _ _ _ h
  · refine GC.aload_n 0 dX6_goInto_62 rfl ?_
    refine GC.aload_n 1 dX6_goInto_63 rfl ?_
    refine GC.getr 3 3 rfl (by decide) (by decide) fw_X6_124 (Or.inl rfl) dX6_goInto_64 h (fun v16 h => ?_)
    refine GoC.iload_n 2 dX6_goInto_67 rfl ?_
    refine GC.iald dX6_goInto_68 h (fun v17 h => ?_)
    refine GC.aload_n 0 dX6_goInto_69 rfl ?_
    refine GC.geti 6 5 rfl (by decide) (by decide) fw_X6_43 (Or.inl rfl) dX6_goInto_70 h (fun v18 h => ?_)
    refine GoC.if_eq 81 dX6_goInto_73 (by decide) h (fun h => ?_) (fun h => ?_)
    · refine GoC.iload_n 3 dX6_goInto_81 rfl ?_
      refine GoC.sub [0, 1, 2] rfl ?_
      exact ksX6_goInto_82 _ h2 _ _ _ _ _ _ _ h
    · refine GoC.iload_n 3 dX6_goInto_76 rfl ?_
      refine GoC.ineg dX6_goInto_77 ?_
      refine GoC.goto 82 dX6_goInto_78 (by decide) ?_
      refine GoC.sub [0, 1, 2] rfl ?_
      exact ksX6_goInto_82 _ h2 _ _ _ _ _ _ _ h
set_option maxRecDepth 20000 in
theorem ksX6_goInto_2 {l : Launch} {G : Gt} {n0 u0 : Nat} {Z : Hp} (n : Nat) : ∀ (x0 : Nat) (x1 : Nat) (x2 : Int32) (σ : Hp), kX6_goInto_2 n x0 x1 x2 σ = some Z → GoC l G RX6 "goInto" cX6_goInto 5 none 4 85 n0 u0 none Z 2 [(0, G.rv x0), (1, G.rv x1), (2, .int x2)] [] σ := by
  induction n with
  | zero => intro x0 x1 x2 σ h; rw [kX6_goInto_2] at h; cases h
  | succ n ih =>
    intro x0 x1 x2 σ h
    rw [kX6_goInto_2] at h
    refine GoC.iload_n 2 dX6_goInto_2 rfl ?_
    refine GC.aload_n 1 dX6_goInto_3 rfl ?_
    refine GC.geti 3 2 rfl (by decide) (by decide) fw_X6_116 (Or.inl rfl) dX6_goInto_4 h (fun v19 h => ?_)
    refine GoC.icmp_ge 135 dX6_goInto_7 (by decide) h (fun h => ?_) (fun h => ?_)
    · cases h
      exact GoC.vret dX6_goInto_135 rfl
    · refine GC.aload_n 1 dX6_goInto_10 rfl ?_
      refine GC.geti 3 1 rfl (by decide) (by decide) fw_X6_117 (Or.inl rfl) dX6_goInto_11 h (fun v20 h => ?_)
      refine GoC.iconst (-1) dX6_goInto_14 (by decide) ?_
      refine GoC.icmp_eq 44 dX6_goInto_15 (by decide) h (fun h => ?_) (fun h => ?_)
      · exact ksX6_goInto_44 _ ih _ _ _ _ h
      · refine GC.aload_n 0 dX6_goInto_18 rfl ?_
        refine GC.aload_n 0 dX6_goInto_19 rfl ?_
        refine GC.aload_n 1 dX6_goInto_20 rfl ?_
        refine GoC.iload_n 2 dX6_goInto_21 rfl ?_
        obtain ⟨h0, h⟩ := ckd_some h
        obtain ⟨v21, hq, h⟩ := Option.bind_eq_some_iff.mp h
        refine GC.callvI (rest := [G.rv x0]) 6 rfl h0 rfl [G.rv x1, .int x2] dX6_goInto_22 kk_X6_120 km_X6_leastRank.1 km_X6_leastRank.2 (ktX6_leastRank _ _ _ _ hq) rfl rfl (Nat.le_of_ble_eq_true rfl) (Nat.le_of_ble_eq_true rfl) ⟨G.rv_cat _, trivial⟩ (Nat.le_of_ble_eq_true rfl) ?_
        obtain ⟨h0, h⟩ := ckd_some h
        obtain ⟨v22, hq, h⟩ := Option.bind_eq_some_iff.mp h
        refine GC.callvI (rest := []) 6 rfl h0 rfl [.int v21] dX6_goInto_25 kk_X6_105 km_X6_isBeyond.1 km_X6_isBeyond.2 (ktX6_isBeyond _ _ _ hq) rfl rfl (Nat.le_of_ble_eq_true rfl) (Nat.le_of_ble_eq_true rfl) trivial (Nat.le_of_ble_eq_true rfl) ?_
        refine GoC.if_eq 44 dX6_goInto_28 (by decide) h (fun h => ?_) (fun h => ?_)
        · exact ksX6_goInto_44 _ ih _ _ _ _ h
        · refine GC.aload_n 0 dX6_goInto_31 rfl ?_
          refine GoC.dup dX6_goInto_32 (G.rv_cat _) ?_
          refine GC.geti 6 15 rfl (by decide) (by decide) fw_X6_62 (Or.inl rfl) dX6_goInto_33 h (fun v23 h => ?_)
          refine GoC.iconst 1 dX6_goInto_36 (by decide) ?_
          refine GoC.iadd dX6_goInto_37 ?_
          refine GC.puti 6 15 rfl (by decide) (by decide) (rfl) fw_X6_62 (Or.inl rfl) (Or.inl rfl) dX6_goInto_38 h (fun σ24 h => ?_)
          refine GoC.goto 129 dX6_goInto_41 (by decide) ?_
          exact ksX6_goInto_129 _ ih _ _ _ _ h
set_option maxRecDepth 20000 in
theorem ksX6_goInto {l : Launch} {G : Gt} {n0 u0 : Nat} {σ : Hp} {Z : Hp} (x0 : Nat) (x1 : Nat) (h : kX6_goInto σ x0 x1 = some Z) : GoC l G RX6 "goInto" cX6_goInto 5 none 4 85 n0 u0 none Z 0 [(0, G.rv x0), (1, G.rv x1)] [] σ := by
  unfold kX6_goInto at h
  refine GoC.iconst 0 dX6_goInto_0 (by decide) ?_
  refine GoC.istore_n [(0, G.rv x0), (1, G.rv x1), (2, .int 0)] dX6_goInto_1 (by decide) rfl ?_
  exact ksX6_goInto_2 _ _ _ _ _ h
set_option maxRecDepth 20000 in
theorem ktX6_goInto {l : Launch} {G : Gt} {σ : Hp} (x0 : Nat) (x1 : Nat) : ∀ Z, kX6_goInto σ x0 x1 = some Z → MtC l G yX6_goInto cX6_goInto 5 none 4 85 [G.rv x0, G.rv x1] σ none Z := fun Z h => MtC.at (by decide +kernel) ⟨G.rv_cat _, G.rv_cat _, trivial⟩ (Nat.le_of_ble_eq_true rfl) (ksX6_goInto x0 x1 h)
/-! X6_run -/
def kX6_run_168  : Nat → Nat → Int32 → Hp → Option (Int32 × Hp)
  | 0, _, _, _ => none
  | n + 1, x0, x5, σ => (gfr σ 16 600 x0).bind (fun v1 => (gfi σ 17 709 v1).bind (fun v2 => if v2 ≤ x5 then (gfi σ 16 613 x0).bind (fun v3 => some (v3, σ)) else ckd σ x0 16 ((kX6_nextPage σ x0).bind (fun v4 => if v4 = 0 then (gfi σ 16 613 x0).bind (fun v5 => some (v5, σ)) else (gfi σ 13 312 v4).bind (fun v6 => ckd σ x0 16 ((kX6_isBeyond σ x0 v6).bind (fun v7 => if v7 = 0 then (pfz σ 13 311 v4 0).bind (fun σ8 => (gfi σ8 16 616 x0).bind (fun v9 => (pfi σ8 16 616 x0 (v9 + 1)).bind (fun σ10 => ckd σ10 x0 16 ((kX6_goInto σ10 x0 v4).bind (fun σ11 => kX6_run_168 n x0 (x5 + 1) σ11))))) else (gfi σ 16 613 x0).bind (fun v12 => some (v12, σ)))))))))
def kX6_run_162  (x0 : Nat) (y0 : Nat) (y1 : Nat) (y2 : Int32) (σ : Hp) : Option (Int32 × Hp) := ckd σ y0 16 ((kX6_letWait σ y0 y1 y2).bind (fun σ13 => kX6_run_168 FU x0 0 σ13))
def kX6_run_102  : Nat → Nat → Int32 → Hp → Option (Int32 × Hp)
  | 0, _, _, _ => none
  | n + 1, x0, x5, σ => (gfr σ 16 600 x0).bind (fun v14 => (gfi σ 17 709 v14).bind (fun v15 => if v15 ≤ x5 then (gfr σ 16 600 x0).bind (fun v16 => (gfr σ 16 600 x0).bind (fun v17 => (gfi σ 17 710 v17).bind (fun v18 => ckd σ v16 17 ((kX7_at σ v16 v18).bind (fun v19 => (gfi σ 16 605 x0).bind (fun v20 => if v20 = 0 then kX6_run_162 x0 x0 v19 0 σ else kX6_run_162 x0 x0 v19 (-1000) σ)))))) else (gfr σ 16 600 x0).bind (fun v21 => ckd σ v21 17 ((kX7_at σ v21 x5).bind (fun v22 => (pfz σ 13 311 v22 0).bind (fun σ23 => kX6_run_102 n x0 (x5 + 1) σ23))))))
def kX6_run_58  (x0 : Nat) (y0 : Nat) (y1 : Int32) (σ : Hp) : Option (Int32 × Hp) := (pfi σ 16 608 y0 y1).bind (fun σ24 => (pfz σ24 16 617 x0 1).bind (fun σ25 => (pfi σ25 16 613 x0 0).bind (fun σ26 => (pfi σ26 16 614 x0 0).bind (fun σ27 => (pfi σ27 16 615 x0 0).bind (fun σ28 => (pfi σ28 16 616 x0 0).bind (fun σ29 => (pfi σ29 16 609 x0 0).bind (fun σ30 => (gfr σ30 16 610 x0).bind (fun v31 => (kJ7_fill_53178 σ30 v31 (-1)).bind (fun σ32 => kX6_run_102 FU x0 0 σ32)))))))))
def kX6_run_34  (x0 : Nat) (x4 : Int32) (y0 : Nat) (y1 : Int32) (σ : Hp) : Option (Int32 × Hp) := (pfz σ 16 606 y0 y1).bind (fun σ33 => (pfi σ33 16 607 x0 x4).bind (fun σ34 => (gfi σ34 16 606 x0).bind (fun v35 => if v35 = 0 then kX6_run_58 x0 x0 x4 σ34 else kX6_run_58 x0 x0 40 σ34)))
def kX6_run_21  (x0 : Nat) (x1 : Int32) (x4 : Int32) (y0 : Nat) (y1 : Int32) (σ : Hp) : Option (Int32 × Hp) := (pfz σ 16 605 y0 y1).bind (fun σ36 => if x1 = 0 then kX6_run_34 x0 x4 x0 1 σ36 else kX6_run_34 x0 x4 x0 0 σ36)
def kX6_run (σ : Hp) (x0 : Nat) (x1 : Int32) (x2 : Int32) (x3 : Int32) (x4 : Int32) : Option (Int32 × Hp) := (pfi σ 16 603 x0 x2).bind (fun σ37 => (pfi σ37 16 604 x0 x3).bind (fun σ38 => if x1 = 2 then kX6_run_21 x0 x1 x4 x0 1 σ38 else kX6_run_21 x0 x1 x4 x0 0 σ38))
set_option maxRecDepth 20000 in
theorem ksX6_run_168 {l : Launch} {G : Gt} {n0 u0 : Nat} {Z : Int32 × Hp} (n : Nat) : ∀ (x0 : Nat) (x5 : Int32) (σ : Hp), kX6_run_168 n x0 x5 σ = some Z → GoC l G RX6 "run" cX6_run 7 (some .int) 5 109 n0 u0 (some (.int Z.1)) Z.2 168 [(0, G.rv x0), (5, .int x5)] [] σ := by
  induction n with
  | zero => intro x0 x5 σ h; rw [kX6_run_168] at h; cases h
  | succ n ih =>
    intro x0 x5 σ h
    rw [kX6_run_168] at h
    refine GoC.iload 1 dX6_run_168 rfl ?_
    refine GC.aload_n 0 dX6_run_170 rfl ?_
    refine GC.getr 6 0 rfl (by decide) (by decide) fw_X6_25 (Or.inl rfl) dX6_run_171 h (fun v1 h => ?_)
    refine GC.geti 7 9 rfl (by decide) (by decide) fw_X6_77 (Or.inl rfl) dX6_run_174 h (fun v2 h => ?_)
    refine GoC.icmp_ge 234 dX6_run_177 (by decide) h (fun h => ?_) (fun h => ?_)
    · refine GC.aload_n 0 dX6_run_234 rfl ?_
      refine GC.geti 6 13 rfl (by decide) (by decide) fw_X6_37 (Or.inl rfl) dX6_run_235 h (fun v3 h => ?_)
      cases h
      exact GoC.iret dX6_run_238 rfl
    · refine GC.aload_n 0 dX6_run_180 rfl ?_
      obtain ⟨h0, h⟩ := ckd_some h
      obtain ⟨v4, hq, h⟩ := Option.bind_eq_some_iff.mp h
      refine GC.callvR (rest := []) 6 rfl h0 rfl [] dX6_run_181 kk_X6_98 km_X6_nextPage.1 km_X6_nextPage.2 (ktX6_nextPage _ _ hq) rfl rfl (Nat.le_of_ble_eq_true rfl) (Nat.le_of_ble_eq_true rfl) trivial (Nat.le_of_ble_eq_true rfl) ?_
      refine GC.astore [(0, G.rv x0), (5, .int x5), (6, G.rv v4)] dX6_run_184 (by decide) rfl ?_
      refine GC.aload 2 dX6_run_186 rfl ?_
      refine GC.ifnull 234 dX6_run_188 (by decide) h (fun h => ?_) (fun h => ?_)
      · refine GC.aload_n 0 dX6_run_234 rfl ?_
        refine GC.geti 6 13 rfl (by decide) (by decide) fw_X6_37 (Or.inl rfl) dX6_run_235 h (fun v5 h => ?_)
        cases h
        exact GoC.iret dX6_run_238 rfl
      · refine GC.aload_n 0 dX6_run_191 rfl ?_
        refine GC.aload 2 dX6_run_192 rfl ?_
        refine GC.geti 3 12 rfl (by decide) (by decide) fw_X6_102 (Or.inl rfl) dX6_run_194 h (fun v6 h => ?_)
        obtain ⟨h0, h⟩ := ckd_some h
        obtain ⟨v7, hq, h⟩ := Option.bind_eq_some_iff.mp h
        refine GC.callvI (rest := []) 6 rfl h0 rfl [.int v6] dX6_run_197 kk_X6_105 km_X6_isBeyond.1 km_X6_isBeyond.2 (ktX6_isBeyond _ _ _ hq) rfl rfl (Nat.le_of_ble_eq_true rfl) (Nat.le_of_ble_eq_true rfl) trivial (Nat.le_of_ble_eq_true rfl) ?_
        refine GoC.if_eq 206 dX6_run_200 (by decide) h (fun h => ?_) (fun h => ?_)
        · refine GC.aload 2 dX6_run_206 rfl ?_
          refine GoC.iconst 0 dX6_run_208 (by decide) ?_
          refine GC.putz 3 11 rfl (by decide) (by decide) (rfl) fw_X6_86 (Or.inl rfl) (Or.inl rfl) dX6_run_209 h (fun σ8 h => ?_)
          refine GC.aload_n 0 dX6_run_212 rfl ?_
          refine GoC.dup dX6_run_213 (G.rv_cat _) ?_
          refine GC.geti 6 16 rfl (by decide) (by decide) fw_X6_65 (Or.inl rfl) dX6_run_214 h (fun v9 h => ?_)
          refine GoC.iconst 1 dX6_run_217 (by decide) ?_
          refine GoC.iadd dX6_run_218 ?_
          refine GC.puti 6 16 rfl (by decide) (by decide) (rfl) fw_X6_65 (Or.inl rfl) (Or.inl rfl) dX6_run_219 h (fun σ10 h => ?_)
          refine GC.aload_n 0 dX6_run_222 rfl ?_
          refine GC.aload 2 dX6_run_223 rfl ?_
          obtain ⟨h0, h⟩ := ckd_some h
          obtain ⟨σ11, hq, h⟩ := Option.bind_eq_some_iff.mp h
          refine GC.callvV (rest := []) 6 rfl h0 rfl [G.rv v4] dX6_run_225 kk_X6_109 km_X6_goInto.1 km_X6_goInto.2 (ktX6_goInto _ _ _ hq) rfl rfl (Nat.le_of_ble_eq_true rfl) (Nat.le_of_ble_eq_true rfl) trivial (Nat.le_of_ble_eq_true rfl) ?_
          refine GoC.iinc (w := 1) 1 [(0, G.rv x0), (5, .int (x5 + 1)), (6, G.rv v4)] dX6_run_228 rfl (by decide) (by decide) rfl ?_
          refine GoC.goto 168 dX6_run_231 (by decide) ?_
          refine GoC.sub [0, 1] rfl ?_
          exact ih _ _ _ h
        · refine GoC.goto 234 dX6_run_203 (by decide) ?_
          refine GC.aload_n 0 dX6_run_234 rfl ?_
          refine GC.geti 6 13 rfl (by decide) (by decide) fw_X6_37 (Or.inl rfl) dX6_run_235 h (fun v12 h => ?_)
          cases h
          exact GoC.iret dX6_run_238 rfl
set_option maxRecDepth 20000 in
theorem ksX6_run_162 {l : Launch} {G : Gt} {n0 u0 : Nat} {Z : Int32 × Hp} (x0 : Nat) (y0 : Nat) (y1 : Nat) (y2 : Int32) (σ : Hp) (h : kX6_run_162 x0 y0 y1 y2 σ = some Z) : GoC l G RX6 "run" cX6_run 7 (some .int) 5 109 n0 u0 (some (.int Z.1)) Z.2 162 [(0, G.rv x0)] [.int y2, G.rv y1, G.rv y0] σ := by
  unfold kX6_run_162 at h
  obtain ⟨h0, h⟩ := ckd_some h
  obtain ⟨σ13, hq, h⟩ := Option.bind_eq_some_iff.mp h
  refine GC.callvV (rest := []) 6 rfl h0 rfl [G.rv y1, .int y2] dX6_run_162 kk_X6_94 km_X6_letWait.1 km_X6_letWait.2 (ktX6_letWait _ _ _ _ hq) rfl rfl (Nat.le_of_ble_eq_true rfl) (Nat.le_of_ble_eq_true rfl) trivial (Nat.le_of_ble_eq_true rfl) ?_
  refine GoC.iconst 0 dX6_run_165 (by decide) ?_
  refine GoC.istore [(0, G.rv x0), (5, .int 0)] dX6_run_166 (by decide) rfl ?_
  exact ksX6_run_168 _ _ _ _ h
set_option maxRecDepth 20000 in
theorem ksX6_run_102 {l : Launch} {G : Gt} {n0 u0 : Nat} {Z : Int32 × Hp} (n : Nat) : ∀ (x0 : Nat) (x5 : Int32) (σ : Hp), kX6_run_102 n x0 x5 σ = some Z → GoC l G RX6 "run" cX6_run 7 (some .int) 5 109 n0 u0 (some (.int Z.1)) Z.2 102 [(0, G.rv x0), (5, .int x5)] [] σ := by
  induction n with
  | zero => intro x0 x5 σ h; rw [kX6_run_102] at h; cases h
  | succ n ih =>
    intro x0 x5 σ h
    rw [kX6_run_102] at h
    refine GoC.iload 1 dX6_run_102 rfl ?_
    refine GC.aload_n 0 dX6_run_104 rfl ?_
    refine GC.getr 6 0 rfl (by decide) (by decide) fw_X6_25 (Or.inl rfl) dX6_run_105 h (fun v14 h => ?_)
    refine GC.geti 7 9 rfl (by decide) (by decide) fw_X6_77 (Or.inl rfl) dX6_run_108 h (fun v15 h => ?_)
    refine GoC.icmp_ge 133 dX6_run_111 (by decide) h (fun h => ?_) (fun h => ?_)
    · refine GC.aload_n 0 dX6_run_133 rfl ?_
      refine GC.aload_n 0 dX6_run_134 rfl ?_
      refine GC.getr 6 0 rfl (by decide) (by decide) fw_X6_25 (Or.inl rfl) dX6_run_135 h (fun v16 h => ?_)
      refine GC.aload_n 0 dX6_run_138 rfl ?_
      refine GC.getr 6 0 rfl (by decide) (by decide) fw_X6_25 (Or.inl rfl) dX6_run_139 h (fun v17 h => ?_)
      refine GC.geti 7 10 rfl (by decide) (by decide) fw_X6_91 (Or.inl rfl) dX6_run_142 h (fun v18 h => ?_)
      obtain ⟨h0, h⟩ := ckd_some h
      obtain ⟨v19, hq, h⟩ := Option.bind_eq_some_iff.mp h
      refine GC.callvR (rest := [G.rv x0]) 7 rfl h0 rfl [.int v18] dX6_run_145 kk_X6_82 km_X7_at.1 km_X7_at.2 (ktX7_at _ _ _ hq) rfl rfl (Nat.le_of_ble_eq_true rfl) (Nat.le_of_ble_eq_true rfl) ⟨G.rv_cat _, trivial⟩ (Nat.le_of_ble_eq_true rfl) ?_
      refine GC.aload_n 0 dX6_run_148 rfl ?_
      refine GC.geti 6 5 rfl (by decide) (by decide) fw_X6_43 (Or.inl rfl) dX6_run_149 h (fun v20 h => ?_)
      refine GoC.if_eq 161 dX6_run_152 (by decide) h (fun h => ?_) (fun h => ?_)
      · refine GoC.iconst 0 dX6_run_161 (by decide) ?_
        refine GoC.sub [0] rfl ?_
        exact ksX6_run_162 _ _ _ _ _ h
      · refine GoC.sipush (-1000) dX6_run_155 (by decide) ?_
        refine GoC.goto 162 dX6_run_158 (by decide) ?_
        refine GoC.sub [0] rfl ?_
        exact ksX6_run_162 _ _ _ _ _ h
    · refine GC.aload_n 0 dX6_run_114 rfl ?_
      refine GC.getr 6 0 rfl (by decide) (by decide) fw_X6_25 (Or.inl rfl) dX6_run_115 h (fun v21 h => ?_)
      refine GoC.iload 1 dX6_run_118 rfl ?_
      obtain ⟨h0, h⟩ := ckd_some h
      obtain ⟨v22, hq, h⟩ := Option.bind_eq_some_iff.mp h
      refine GC.callvR (rest := []) 7 rfl h0 rfl [.int x5] dX6_run_120 kk_X6_82 km_X7_at.1 km_X7_at.2 (ktX7_at _ _ _ hq) rfl rfl (Nat.le_of_ble_eq_true rfl) (Nat.le_of_ble_eq_true rfl) trivial (Nat.le_of_ble_eq_true rfl) ?_
      refine GoC.iconst 0 dX6_run_123 (by decide) ?_
      refine GC.putz 3 11 rfl (by decide) (by decide) (rfl) fw_X6_86 (Or.inl rfl) (Or.inl rfl) dX6_run_124 h (fun σ23 h => ?_)
      refine GoC.iinc (w := 1) 1 [(0, G.rv x0), (5, .int (x5 + 1))] dX6_run_127 rfl (by decide) (by decide) rfl ?_
      refine GoC.goto 102 dX6_run_130 (by decide) ?_
      exact ih _ _ _ h
set_option maxRecDepth 20000 in
theorem ksX6_run_58 {l : Launch} {G : Gt} {n0 u0 : Nat} {Z : Int32 × Hp} (x0 : Nat) (y0 : Nat) (y1 : Int32) (σ : Hp) (h : kX6_run_58 x0 y0 y1 σ = some Z) : GoC l G RX6 "run" cX6_run 7 (some .int) 5 109 n0 u0 (some (.int Z.1)) Z.2 58 [(0, G.rv x0)] [.int y1, G.rv y0] σ := by
  unfold kX6_run_58 at h
  refine GC.puti 6 8 rfl (by decide) (by decide) (rfl) fw_X6_53 (Or.inl rfl) (Or.inl rfl) dX6_run_58 h (fun σ24 h => ?_)
  refine GC.aload_n 0 dX6_run_61 rfl ?_
  refine GoC.iconst 1 dX6_run_62 (by decide) ?_
  refine GC.putz 6 17 rfl (by decide) (by decide) (rfl) fw_X6_56 (Or.inl rfl) (Or.inl rfl) dX6_run_63 h (fun σ25 h => ?_)
  refine GC.aload_n 0 dX6_run_66 rfl ?_
  refine GoC.iconst 0 dX6_run_67 (by decide) ?_
  refine GC.puti 6 13 rfl (by decide) (by decide) (rfl) fw_X6_37 (Or.inl rfl) (Or.inl rfl) dX6_run_68 h (fun σ26 h => ?_)
  refine GC.aload_n 0 dX6_run_71 rfl ?_
  refine GoC.iconst 0 dX6_run_72 (by decide) ?_
  refine GC.puti 6 14 rfl (by decide) (by decide) (rfl) fw_X6_59 (Or.inl rfl) (Or.inl rfl) dX6_run_73 h (fun σ27 h => ?_)
  refine GC.aload_n 0 dX6_run_76 rfl ?_
  refine GoC.iconst 0 dX6_run_77 (by decide) ?_
  refine GC.puti 6 15 rfl (by decide) (by decide) (rfl) fw_X6_62 (Or.inl rfl) (Or.inl rfl) dX6_run_78 h (fun σ28 h => ?_)
  refine GC.aload_n 0 dX6_run_81 rfl ?_
  refine GoC.iconst 0 dX6_run_82 (by decide) ?_
  refine GC.puti 6 16 rfl (by decide) (by decide) (rfl) fw_X6_65 (Or.inl rfl) (Or.inl rfl) dX6_run_83 h (fun σ29 h => ?_)
  refine GC.aload_n 0 dX6_run_86 rfl ?_
  refine GoC.iconst 0 dX6_run_87 (by decide) ?_
  refine GC.puti 6 9 rfl (by decide) (by decide) (rfl) fw_X6_68 (Or.inl rfl) (Or.inl rfl) dX6_run_88 h (fun σ30 h => ?_)
  refine GC.aload_n 0 dX6_run_91 rfl ?_
  refine GC.getr 6 10 rfl (by decide) (by decide) fw_X6_15 (Or.inl rfl) dX6_run_92 h (fun v31 h => ?_)
  refine GoC.iconst (-1) dX6_run_95 (by decide) ?_
  obtain ⟨σ32, hq, h⟩ := Option.bind_eq_some_iff.mp h
  refine GC.callsV (rest := []) [G.rv v31, .int (-1)] dX6_run_96 kk_X6_71 km_J7_fill_53178 (ktJ7_fill_53178 _ _ _ hq) rfl rfl (Nat.le_of_ble_eq_true rfl) (Nat.le_of_ble_eq_true rfl) trivial (Nat.le_of_ble_eq_true rfl) ?_
  refine GoC.iconst 0 dX6_run_99 (by decide) ?_
  refine GoC.istore [(0, G.rv x0), (5, .int 0)] dX6_run_100 (by decide) rfl ?_
  exact ksX6_run_102 _ _ _ _ h
set_option maxRecDepth 20000 in
theorem ksX6_run_34 {l : Launch} {G : Gt} {n0 u0 : Nat} {Z : Int32 × Hp} (x0 : Nat) (x4 : Int32) (y0 : Nat) (y1 : Int32) (σ : Hp) (h : kX6_run_34 x0 x4 y0 y1 σ = some Z) : GoC l G RX6 "run" cX6_run 7 (some .int) 5 109 n0 u0 (some (.int Z.1)) Z.2 34 [(0, G.rv x0), (4, .int x4)] [.int y1, G.rv y0] σ := by
  unfold kX6_run_34 at h
  refine GC.putz 6 6 rfl (by decide) (by decide) (rfl) fw_X6_47 (Or.inl rfl) (Or.inl rfl) dX6_run_34 h (fun σ33 h => ?_)
  refine GC.aload_n 0 dX6_run_37 rfl ?_
  refine GoC.iload 1 dX6_run_38 rfl ?_
  refine GC.puti 6 7 rfl (by decide) (by decide) (rfl) fw_X6_50 (Or.inl rfl) (Or.inl rfl) dX6_run_40 h (fun σ34 h => ?_)
  refine GC.aload_n 0 dX6_run_43 rfl ?_
  refine GC.aload_n 0 dX6_run_44 rfl ?_
  refine GC.geti 6 6 rfl (by decide) (by decide) fw_X6_47 (Or.inl rfl) dX6_run_45 h (fun v35 h => ?_)
  refine GoC.if_eq 56 dX6_run_48 (by decide) h (fun h => ?_) (fun h => ?_)
  · refine GoC.iload 1 dX6_run_56 rfl ?_
    refine GoC.sub [0] rfl ?_
    exact ksX6_run_58 _ _ _ _ h
  · refine GoC.bipush 40 dX6_run_51 (by decide) ?_
    refine GoC.goto 58 dX6_run_53 (by decide) ?_
    refine GoC.sub [0] rfl ?_
    exact ksX6_run_58 _ _ _ _ h
set_option maxRecDepth 20000 in
theorem ksX6_run_21 {l : Launch} {G : Gt} {n0 u0 : Nat} {Z : Int32 × Hp} (x0 : Nat) (x1 : Int32) (x4 : Int32) (y0 : Nat) (y1 : Int32) (σ : Hp) (h : kX6_run_21 x0 x1 x4 y0 y1 σ = some Z) : GoC l G RX6 "run" cX6_run 7 (some .int) 5 109 n0 u0 (some (.int Z.1)) Z.2 21 [(0, G.rv x0), (1, .int x1), (4, .int x4)] [.int y1, G.rv y0] σ := by
  unfold kX6_run_21 at h
  refine GC.putz 6 5 rfl (by decide) (by decide) (rfl) fw_X6_43 (Or.inl rfl) (Or.inl rfl) dX6_run_21 h (fun σ36 h => ?_)
  refine GC.aload_n 0 dX6_run_24 rfl ?_
  refine GoC.iload_n 1 dX6_run_25 rfl ?_
  refine GoC.if_ne 33 dX6_run_26 (by decide) h (fun h => ?_) (fun h => ?_)
  · refine GoC.iconst 0 dX6_run_33 (by decide) ?_
    refine GoC.sub [0, 2] rfl ?_
    exact ksX6_run_34 _ _ _ _ _ h
  · refine GoC.iconst 1 dX6_run_29 (by decide) ?_
    refine GoC.goto 34 dX6_run_30 (by decide) ?_
    refine GoC.sub [0, 2] rfl ?_
    exact ksX6_run_34 _ _ _ _ _ h
set_option maxRecDepth 20000 in
theorem ksX6_run {l : Launch} {G : Gt} {n0 u0 : Nat} {σ : Hp} {Z : Int32 × Hp} (x0 : Nat) (x1 : Int32) (x2 : Int32) (x3 : Int32) (x4 : Int32) (h : kX6_run σ x0 x1 x2 x3 x4 = some Z) : GoC l G RX6 "run" cX6_run 7 (some .int) 5 109 n0 u0 (some (.int Z.1)) Z.2 0 [(0, G.rv x0), (1, .int x1), (2, .int x2), (3, .int x3), (4, .int x4)] [] σ := by
  unfold kX6_run at h
  refine GC.aload_n 0 dX6_run_0 rfl ?_
  refine GoC.iload_n 2 dX6_run_1 rfl ?_
  refine GC.puti 6 3 rfl (by decide) (by decide) (rfl) fw_X6_40 (Or.inl rfl) (Or.inl rfl) dX6_run_2 h (fun σ37 h => ?_)
  refine GC.aload_n 0 dX6_run_5 rfl ?_
  refine GoC.iload_n 3 dX6_run_6 rfl ?_
  refine GC.puti 6 4 rfl (by decide) (by decide) (rfl) fw_X6_9 (Or.inl rfl) (Or.inl rfl) dX6_run_7 h (fun σ38 h => ?_)
  refine GC.aload_n 0 dX6_run_10 rfl ?_
  refine GoC.iload_n 1 dX6_run_11 rfl ?_
  refine GoC.iconst 2 dX6_run_12 (by decide) ?_
  refine GoC.icmp_ne 20 dX6_run_13 (by decide) h (fun h => ?_) (fun h => ?_)
  · refine GoC.iconst 0 dX6_run_20 (by decide) ?_
    refine GoC.sub [0, 1, 4] rfl ?_
    exact ksX6_run_21 _ _ _ _ _ _ h
  · refine GoC.iconst 1 dX6_run_16 (by decide) ?_
    refine GoC.goto 21 dX6_run_17 (by decide) ?_
    refine GoC.sub [0, 1, 4] rfl ?_
    exact ksX6_run_21 _ _ _ _ _ _ h
set_option maxRecDepth 20000 in
theorem ktX6_run {l : Launch} {G : Gt} {σ : Hp} (x0 : Nat) (x1 : Int32) (x2 : Int32) (x3 : Int32) (x4 : Int32) : ∀ Z, kX6_run σ x0 x1 x2 x3 x4 = some Z → MtC l G yX6_run cX6_run 7 (some .int) 5 109 [G.rv x0, .int x1, .int x2, .int x3, .int x4] σ (some (.int Z.1)) Z.2 := fun Z h => MtC.at (by decide +kernel) ⟨G.rv_cat _, rfl, rfl, rfl, rfl, trivial⟩ (Nat.le_of_ble_eq_true rfl) (ksX6_run x0 x1 x2 x3 x4 h)
/-! X7_has -/
def kX7_has (σ : Hp) (x0 : Nat) (x1 : Int32) : Option (Int32) := if x1 < 0 then zb 0 else if 40 ≤ x1 then zb 0 else (gfr σ 17 700 x0).bind (fun v1 => (ald σ 1 v1 x1).bind (fun v2 => if v2 = 0 then zb 0 else zb 1))
set_option maxRecDepth 20000 in
theorem ksX7_has {l : Launch} {G : Gt} {n0 u0 : Nat} {σ : Hp} {Z : Int32} (x0 : Nat) (x1 : Int32) (h : kX7_has σ x0 x1 = some Z) : GoC l G RX7 "has" cX7_has 2 (some .boolean) 0 0 n0 u0 (some (.int Z)) σ 0 [(0, G.rv x0), (1, .int x1)] [] σ := by
  unfold kX7_has at h
  refine GoC.iload_n 1 dX7_has_0 rfl ?_
  refine GoC.if_lt 23 dX7_has_1 (by decide) h (fun h => ?_) (fun h => ?_)
  · refine GoC.iconst 0 dX7_has_23 (by decide) ?_
    exact GoC.zret dX7_has_24 rfl h
  · refine GoC.iload_n 1 dX7_has_4 rfl ?_
    refine GoC.bipush 40 dX7_has_5 (by decide) ?_
    refine GoC.icmp_ge 23 dX7_has_7 (by decide) h (fun h => ?_) (fun h => ?_)
    · refine GoC.iconst 0 dX7_has_23 (by decide) ?_
      exact GoC.zret dX7_has_24 rfl h
    · refine GC.aload_n 0 dX7_has_10 rfl ?_
      refine GC.getr 7 0 rfl (by decide) (by decide) fw_X7_9 (Or.inl rfl) dX7_has_11 h (fun v1 h => ?_)
      refine GoC.iload_n 1 dX7_has_14 rfl ?_
      refine GC.iald dX7_has_15 h (fun v2 h => ?_)
      refine GoC.if_eq 23 dX7_has_16 (by decide) h (fun h => ?_) (fun h => ?_)
      · refine GoC.iconst 0 dX7_has_23 (by decide) ?_
        exact GoC.zret dX7_has_24 rfl h
      · refine GoC.iconst 1 dX7_has_19 (by decide) ?_
        refine GoC.goto 24 dX7_has_20 (by decide) ?_
        exact GoC.zret dX7_has_24 rfl h
set_option maxRecDepth 20000 in
theorem ktX7_has {l : Launch} {G : Gt} {σ : Hp} (x0 : Nat) (x1 : Int32) : ∀ Z, kX7_has σ x0 x1 = some Z → MtC l G yX7_has cX7_has 2 (some .boolean) 0 0 [G.rv x0, .int x1] σ (some (.int Z)) σ := fun Z h => MtC.at (by decide +kernel) ⟨G.rv_cat _, rfl, trivial⟩ (Nat.le_of_ble_eq_true rfl) (ksX7_has x0 x1 h)
/-! X7_numberOf -/
def kX7_numberOf_2 (σ : Hp)  : Nat → Nat → Int32 → Int32 → Option (Int32)
  | 0, _, _, _ => none
  | n + 1, x0, x1, x2 => if 40 ≤ x2 then some (-1) else (gfr σ 17 700 x0).bind (fun v1 => (ald σ 1 v1 x2).bind (fun v2 => if v2 = x1 then some x2 else kX7_numberOf_2 σ n x0 x1 (x2 + 1)))
def kX7_numberOf (σ : Hp) (x0 : Nat) (x1 : Int32) : Option (Int32) := kX7_numberOf_2 σ FU x0 x1 0
set_option maxRecDepth 20000 in
theorem ksX7_numberOf_2 {l : Launch} {G : Gt} {n0 u0 : Nat} {σ : Hp} {Z : Int32} (n : Nat) : ∀ (x0 : Nat) (x1 : Int32) (x2 : Int32), kX7_numberOf_2 σ n x0 x1 x2 = some Z → GoC l G RX7 "numberOf" cX7_numberOf 3 (some .int) 0 0 n0 u0 (some (.int Z)) σ 2 [(0, G.rv x0), (1, .int x1), (2, .int x2)] [] σ := by
  induction n with
  | zero => intro x0 x1 x2 h; rw [kX7_numberOf_2] at h; cases h
  | succ n ih =>
    intro x0 x1 x2 h
    rw [kX7_numberOf_2] at h
    refine GoC.iload_n 2 dX7_numberOf_2 rfl ?_
    refine GoC.bipush 40 dX7_numberOf_3 (by decide) ?_
    refine GoC.icmp_ge 26 dX7_numberOf_5 (by decide) h (fun h => ?_) (fun h => ?_)
    · refine GoC.iconst (-1) dX7_numberOf_26 (by decide) ?_
      cases h
      exact GoC.iret dX7_numberOf_27 rfl
    · refine GC.aload_n 0 dX7_numberOf_8 rfl ?_
      refine GC.getr 7 0 rfl (by decide) (by decide) fw_X7_9 (Or.inl rfl) dX7_numberOf_9 h (fun v1 h => ?_)
      refine GoC.iload_n 2 dX7_numberOf_12 rfl ?_
      refine GC.iald dX7_numberOf_13 h (fun v2 h => ?_)
      refine GoC.iload_n 1 dX7_numberOf_14 rfl ?_
      refine GoC.icmp_ne 20 dX7_numberOf_15 (by decide) h (fun h => ?_) (fun h => ?_)
      · refine GoC.iinc (w := 1) 2 [(0, G.rv x0), (1, .int x1), (2, .int (x2 + 1))] dX7_numberOf_20 rfl (by decide) (by decide) rfl ?_
        refine GoC.goto 2 dX7_numberOf_23 (by decide) ?_
        exact ih _ _ _ h
      · refine GoC.iload_n 2 dX7_numberOf_18 rfl ?_
        cases h
        exact GoC.iret dX7_numberOf_19 rfl
set_option maxRecDepth 20000 in
theorem ksX7_numberOf {l : Launch} {G : Gt} {n0 u0 : Nat} {σ : Hp} {Z : Int32} (x0 : Nat) (x1 : Int32) (h : kX7_numberOf σ x0 x1 = some Z) : GoC l G RX7 "numberOf" cX7_numberOf 3 (some .int) 0 0 n0 u0 (some (.int Z)) σ 0 [(0, G.rv x0), (1, .int x1)] [] σ := by
  unfold kX7_numberOf at h
  refine GoC.iconst 0 dX7_numberOf_0 (by decide) ?_
  refine GoC.istore_n [(0, G.rv x0), (1, .int x1), (2, .int 0)] dX7_numberOf_1 (by decide) rfl ?_
  exact ksX7_numberOf_2 _ _ _ _ h
set_option maxRecDepth 20000 in
theorem ktX7_numberOf {l : Launch} {G : Gt} {σ : Hp} (x0 : Nat) (x1 : Int32) : ∀ Z, kX7_numberOf σ x0 x1 = some Z → MtC l G yX7_numberOf cX7_numberOf 3 (some .int) 0 0 [G.rv x0, .int x1] σ (some (.int Z)) σ := fun Z h => MtC.at (by decide +kernel) ⟨G.rv_cat _, rfl, trivial⟩ (Nat.le_of_ble_eq_true rfl) (ksX7_numberOf x0 x1 h)
/-! X7_freeNumber -/
def kX7_freeNumber (σ : Hp) (x0 : Nat) : Option (Int32) := ckd σ x0 17 ((kX7_numberOf σ x0 0).bind (fun v1 => some v1))
set_option maxRecDepth 20000 in
theorem ksX7_freeNumber {l : Launch} {G : Gt} {n0 u0 : Nat} {σ : Hp} {Z : Int32} (x0 : Nat) (h : kX7_freeNumber σ x0 = some Z) : GoC l G RX7 "freeNumber" cX7_freeNumber 1 (some .int) 1 22 n0 u0 (some (.int Z)) σ 0 [(0, G.rv x0)] [] σ := by
  unfold kX7_freeNumber at h
  refine GC.aload_n 0 dX7_freeNumber_0 rfl ?_
  refine GoC.iconst 0 dX7_freeNumber_1 (by decide) ?_
  obtain ⟨h0, h⟩ := ckd_some h
  obtain ⟨v1, hq, h⟩ := Option.bind_eq_some_iff.mp h
  refine GC.callvI (rest := []) 7 rfl h0 rfl [.int 0] dX7_freeNumber_2 kk_X7_48 km_X7_numberOf.1 km_X7_numberOf.2 (ktX7_numberOf _ _ _ hq) rfl rfl (Nat.le_of_ble_eq_true rfl) (Nat.le_of_ble_eq_true rfl) trivial (Nat.le_of_ble_eq_true rfl) ?_
  cases h
  exact GoC.iret dX7_freeNumber_5 rfl
set_option maxRecDepth 20000 in
theorem ktX7_freeNumber {l : Launch} {G : Gt} {σ : Hp} (x0 : Nat) : ∀ Z, kX7_freeNumber σ x0 = some Z → MtC l G yX7_freeNumber cX7_freeNumber 1 (some .int) 1 22 [G.rv x0] σ (some (.int Z)) σ := fun Z h => MtC.at (by decide +kernel) ⟨G.rv_cat _, trivial⟩ (Nat.le_of_ble_eq_true rfl) (ksX7_freeNumber x0 h)
/-! X7_setWord -/
def kX7_setWord (σ : Hp) (x0 : Nat) (x1 : Int32) (x2 : Int32) : Option (Hp) := if x1 < 0 then some σ else if 40 ≤ x1 then some σ else (gfr σ 17 700 x0).bind (fun v1 => (ast σ 1 v1 x1 x2).bind (fun σ2 => (gfi σ2 17 701 x0).bind (fun v3 => (pfi σ2 17 701 x0 (v3 + 1)).bind (fun σ4 => some σ4))))
set_option maxRecDepth 20000 in
theorem ksX7_setWord {l : Launch} {G : Gt} {n0 u0 : Nat} {σ : Hp} {Z : Hp} (x0 : Nat) (x1 : Int32) (x2 : Int32) (h : kX7_setWord σ x0 x1 x2 = some Z) : GoC l G RX7 "setWord" cX7_setWord 3 none 0 0 n0 u0 none Z 0 [(0, G.rv x0), (1, .int x1), (2, .int x2)] [] σ := by
  unfold kX7_setWord at h
  refine GoC.iload_n 1 dX7_setWord_0 rfl ?_
  refine GoC.if_lt 27 dX7_setWord_1 (by decide) h (fun h => ?_) (fun h => ?_)
  · cases h
    exact GoC.vret dX7_setWord_27 rfl
  · refine GoC.iload_n 1 dX7_setWord_4 rfl ?_
    refine GoC.bipush 40 dX7_setWord_5 (by decide) ?_
    refine GoC.icmp_ge 27 dX7_setWord_7 (by decide) h (fun h => ?_) (fun h => ?_)
    · cases h
      exact GoC.vret dX7_setWord_27 rfl
    · refine GC.aload_n 0 dX7_setWord_10 rfl ?_
      refine GC.getr 7 0 rfl (by decide) (by decide) fw_X7_9 (Or.inl rfl) dX7_setWord_11 h (fun v1 h => ?_)
      refine GoC.iload_n 1 dX7_setWord_14 rfl ?_
      refine GoC.iload_n 2 dX7_setWord_15 rfl ?_
      refine GC.iast dX7_setWord_16 h (fun σ2 h => ?_)
      refine GC.aload_n 0 dX7_setWord_17 rfl ?_
      refine GoC.dup dX7_setWord_18 (G.rv_cat _) ?_
      refine GC.geti 7 1 rfl (by decide) (by decide) fw_X7_52 (Or.inl rfl) dX7_setWord_19 h (fun v3 h => ?_)
      refine GoC.iconst 1 dX7_setWord_22 (by decide) ?_
      refine GoC.iadd dX7_setWord_23 ?_
      refine GC.puti 7 1 rfl (by decide) (by decide) (rfl) fw_X7_52 (Or.inl rfl) (Or.inl rfl) dX7_setWord_24 h (fun σ4 h => ?_)
      cases h
      exact GoC.vret dX7_setWord_27 rfl
set_option maxRecDepth 20000 in
theorem ktX7_setWord {l : Launch} {G : Gt} {σ : Hp} (x0 : Nat) (x1 : Int32) (x2 : Int32) : ∀ Z, kX7_setWord σ x0 x1 x2 = some Z → MtC l G yX7_setWord cX7_setWord 3 none 0 0 [G.rv x0, .int x1, .int x2] σ none Z := fun Z h => MtC.at (by decide +kernel) ⟨G.rv_cat _, rfl, rfl, trivial⟩ (Nat.le_of_ble_eq_true rfl) (ksX7_setWord x0 x1 x2 h)
/-! X7_setTold -/
def kX7_setTold (σ : Hp) (x0 : Nat) (x1 : Int32) (x2 : Int32) (x3 : Int32) (x4 : Int32) : Option (Hp) := (gfr σ 17 702 x0).bind (fun v1 => (ast σ 1 v1 x1 x2).bind (fun σ2 => (gfr σ2 17 703 x0).bind (fun v3 => (ast σ2 1 v3 x1 x3).bind (fun σ4 => (gfr σ4 17 704 x0).bind (fun v5 => (ast σ4 1 v5 x1 x4).bind (fun σ6 => some σ6))))))
set_option maxRecDepth 20000 in
theorem ksX7_setTold {l : Launch} {G : Gt} {n0 u0 : Nat} {σ : Hp} {Z : Hp} (x0 : Nat) (x1 : Int32) (x2 : Int32) (x3 : Int32) (x4 : Int32) (h : kX7_setTold σ x0 x1 x2 x3 x4 = some Z) : GoC l G RX7 "setTold" cX7_setTold 5 none 0 0 n0 u0 none Z 0 [(0, G.rv x0), (1, .int x1), (2, .int x2), (3, .int x3), (4, .int x4)] [] σ := by
  unfold kX7_setTold at h
  refine GC.aload_n 0 dX7_setTold_0 rfl ?_
  refine GC.getr 7 2 rfl (by decide) (by decide) fw_X7_15 (Or.inl rfl) dX7_setTold_1 h (fun v1 h => ?_)
  refine GoC.iload_n 1 dX7_setTold_4 rfl ?_
  refine GoC.iload_n 2 dX7_setTold_5 rfl ?_
  refine GC.iast dX7_setTold_6 h (fun σ2 h => ?_)
  refine GC.aload_n 0 dX7_setTold_7 rfl ?_
  refine GC.getr 7 3 rfl (by decide) (by decide) fw_X7_18 (Or.inl rfl) dX7_setTold_8 h (fun v3 h => ?_)
  refine GoC.iload_n 1 dX7_setTold_11 rfl ?_
  refine GoC.iload_n 3 dX7_setTold_12 rfl ?_
  refine GC.iast dX7_setTold_13 h (fun σ4 h => ?_)
  refine GC.aload_n 0 dX7_setTold_14 rfl ?_
  refine GC.getr 7 4 rfl (by decide) (by decide) fw_X7_21 (Or.inl rfl) dX7_setTold_15 h (fun v5 h => ?_)
  refine GoC.iload_n 1 dX7_setTold_18 rfl ?_
  refine GoC.iload 4 dX7_setTold_19 rfl ?_
  refine GC.iast dX7_setTold_21 h (fun σ6 h => ?_)
  cases h
  exact GoC.vret dX7_setTold_22 rfl
set_option maxRecDepth 20000 in
theorem ktX7_setTold {l : Launch} {G : Gt} {σ : Hp} (x0 : Nat) (x1 : Int32) (x2 : Int32) (x3 : Int32) (x4 : Int32) : ∀ Z, kX7_setTold σ x0 x1 x2 x3 x4 = some Z → MtC l G yX7_setTold cX7_setTold 5 none 0 0 [G.rv x0, .int x1, .int x2, .int x3, .int x4] σ none Z := fun Z h => MtC.at (by decide +kernel) ⟨G.rv_cat _, rfl, rfl, rfl, rfl, trivial⟩ (Nat.le_of_ble_eq_true rfl) (ksX7_setTold x0 x1 x2 x3 x4 h)
/-! X7_forget -/
def kX7_forget_75 (k21 : Nat → Int32 → Int32 → Int32 → Hp → Option (Hp)) (x0 : Nat) (x1 : Int32) (x2 : Int32) (x3 : Int32) (σ : Hp) : Option (Hp) := k21 x0 x1 x2 (x3 + 1) σ
def kX7_forget_21  : Nat → Nat → Int32 → Int32 → Int32 → Hp → Option (Hp)
  | 0, _, _, _, _, _ => none
  | n + 1, x0, x1, x2, x3, σ => (gfi σ 17 705 x0).bind (fun v1 => if v1 ≤ x3 then (pfi σ 17 705 x0 x2).bind (fun σ2 => some σ2) else (gfr σ 17 702 x0).bind (fun v3 => (ald σ 1 v3 x3).bind (fun v4 => if v4 = x1 then kX7_forget_75 (kX7_forget_21 n) x0 x1 x2 x3 σ else (gfr σ 17 703 x0).bind (fun v5 => (ald σ 1 v5 x3).bind (fun v6 => if v6 = x1 then kX7_forget_75 (kX7_forget_21 n) x0 x1 x2 x3 σ else (gfr σ 17 702 x0).bind (fun v7 => (ald σ 1 v7 x3).bind (fun v8 => (gfr σ 17 703 x0).bind (fun v9 => (ald σ 1 v9 x3).bind (fun v10 => (gfr σ 17 704 x0).bind (fun v11 => (ald σ 1 v11 x3).bind (fun v12 => ckd σ x0 17 ((kX7_setTold σ x0 x2 v8 v10 v12).bind (fun σ13 => kX7_forget_75 (kX7_forget_21 n) x0 x1 (x2 + 1) x3 σ13)))))))))))))
def kX7_forget (σ : Hp) (x0 : Nat) (x1 : Int32) : Option (Hp) := (gfr σ 17 700 x0).bind (fun v14 => (ast σ 1 v14 x1 0).bind (fun σ15 => (gfi σ15 17 701 x0).bind (fun v16 => (pfi σ15 17 701 x0 (v16 - 1)).bind (fun σ17 => kX7_forget_21 FU x0 x1 0 0 σ17))))
set_option maxRecDepth 20000 in
theorem ksX7_forget_75 {l : Launch} {G : Gt} {n0 u0 : Nat} {Z : Hp} (k21 : Nat → Int32 → Int32 → Int32 → Hp → Option (Hp)) (h21 : ∀ (x0 : Nat) (x1 : Int32) (x2 : Int32) (x3 : Int32) (σ : Hp), k21 x0 x1 x2 x3 σ = some Z → GoC l G RX7 "forget" cX7_forget 4 none 1 24 n0 u0 none Z 21 [(0, G.rv x0), (1, .int x1), (2, .int x2), (3, .int x3)] [] σ) (x0 : Nat) (x1 : Int32) (x2 : Int32) (x3 : Int32) (σ : Hp) (h : kX7_forget_75 k21 x0 x1 x2 x3 σ = some Z) : GoC l G RX7 "forget" cX7_forget 4 none 1 24 n0 u0 none Z 75 [(0, G.rv x0), (1, .int x1), (2, .int x2), (3, .int x3)] [] σ := by
  unfold kX7_forget_75 at h
  refine GoC.iinc (w := 1) 3 [(0, G.rv x0), (1, .int x1), (2, .int x2), (3, .int (x3 + 1))] dX7_forget_75 rfl (by decide) (by decide) rfl ?_
  refine GoC.goto 21 dX7_forget_78 (by decide) ?_
  exact h21 _ _ _ _ _ h
set_option maxRecDepth 20000 in
theorem ksX7_forget_21 {l : Launch} {G : Gt} {n0 u0 : Nat} {Z : Hp} (n : Nat) : ∀ (x0 : Nat) (x1 : Int32) (x2 : Int32) (x3 : Int32) (σ : Hp), kX7_forget_21 n x0 x1 x2 x3 σ = some Z → GoC l G RX7 "forget" cX7_forget 4 none 1 24 n0 u0 none Z 21 [(0, G.rv x0), (1, .int x1), (2, .int x2), (3, .int x3)] [] σ := by
  induction n with
  | zero => intro x0 x1 x2 x3 σ h; rw [kX7_forget_21] at h; cases h
  | succ n ih =>
    intro x0 x1 x2 x3 σ h
    rw [kX7_forget_21] at h
    refine GoC.iload_n 3 dX7_forget_21 rfl ?_
    refine GC.aload_n 0 dX7_forget_22 rfl ?_
    refine GC.geti 7 5 rfl (by decide) (by decide) fw_X7_55 (Or.inl rfl) dX7_forget_23 h (fun v1 h => ?_)
    refine GoC.icmp_ge 81 dX7_forget_26 (by decide) h (fun h => ?_) (fun h => ?_)
    · refine GC.aload_n 0 dX7_forget_81 rfl ?_
      refine GoC.iload_n 2 dX7_forget_82 rfl ?_
      refine GC.puti 7 5 rfl (by decide) (by decide) (rfl) fw_X7_55 (Or.inl rfl) (Or.inl rfl) dX7_forget_83 h (fun σ2 h => ?_)
      cases h
      exact GoC.vret dX7_forget_86 rfl
    · refine GC.aload_n 0 dX7_forget_29 rfl ?_
      refine GC.getr 7 2 rfl (by decide) (by decide) fw_X7_15 (Or.inl rfl) dX7_forget_30 h (fun v3 h => ?_)
      refine GoC.iload_n 3 dX7_forget_33 rfl ?_
      refine GC.iald dX7_forget_34 h (fun v4 h => ?_)
      refine GoC.iload_n 1 dX7_forget_35 rfl ?_
      refine GoC.icmp_eq 75 dX7_forget_36 (by decide) h (fun h => ?_) (fun h => ?_)
      · exact ksX7_forget_75 _ ih _ _ _ _ _ h
      · refine GC.aload_n 0 dX7_forget_39 rfl ?_
        refine GC.getr 7 3 rfl (by decide) (by decide) fw_X7_18 (Or.inl rfl) dX7_forget_40 h (fun v5 h => ?_)
        refine GoC.iload_n 3 dX7_forget_43 rfl ?_
        refine GC.iald dX7_forget_44 h (fun v6 h => ?_)
        refine GoC.iload_n 1 dX7_forget_45 rfl ?_
        refine GoC.icmp_eq 75 dX7_forget_46 (by decide) h (fun h => ?_) (fun h => ?_)
        · exact ksX7_forget_75 _ ih _ _ _ _ _ h
        · refine GC.aload_n 0 dX7_forget_49 rfl ?_
          refine GoC.iload_n 2 dX7_forget_50 rfl ?_
          refine GC.aload_n 0 dX7_forget_51 rfl ?_
          refine GC.getr 7 2 rfl (by decide) (by decide) fw_X7_15 (Or.inl rfl) dX7_forget_52 h (fun v7 h => ?_)
          refine GoC.iload_n 3 dX7_forget_55 rfl ?_
          refine GC.iald dX7_forget_56 h (fun v8 h => ?_)
          refine GC.aload_n 0 dX7_forget_57 rfl ?_
          refine GC.getr 7 3 rfl (by decide) (by decide) fw_X7_18 (Or.inl rfl) dX7_forget_58 h (fun v9 h => ?_)
          refine GoC.iload_n 3 dX7_forget_61 rfl ?_
          refine GC.iald dX7_forget_62 h (fun v10 h => ?_)
          refine GC.aload_n 0 dX7_forget_63 rfl ?_
          refine GC.getr 7 4 rfl (by decide) (by decide) fw_X7_21 (Or.inl rfl) dX7_forget_64 h (fun v11 h => ?_)
          refine GoC.iload_n 3 dX7_forget_67 rfl ?_
          refine GC.iald dX7_forget_68 h (fun v12 h => ?_)
          obtain ⟨h0, h⟩ := ckd_some h
          obtain ⟨σ13, hq, h⟩ := Option.bind_eq_some_iff.mp h
          refine GC.callvV (rest := []) 7 rfl h0 rfl [.int x2, .int v8, .int v10, .int v12] dX7_forget_69 kk_X7_58 km_X7_setTold.1 km_X7_setTold.2 (ktX7_setTold _ _ _ _ _ _ hq) rfl rfl (Nat.le_of_ble_eq_true rfl) (Nat.le_of_ble_eq_true rfl) trivial (Nat.le_of_ble_eq_true rfl) ?_
          refine GoC.iinc (w := 1) 2 [(0, G.rv x0), (1, .int x1), (2, .int (x2 + 1)), (3, .int x3)] dX7_forget_72 rfl (by decide) (by decide) rfl ?_
          exact ksX7_forget_75 _ ih _ _ _ _ _ h
set_option maxRecDepth 20000 in
theorem ksX7_forget {l : Launch} {G : Gt} {n0 u0 : Nat} {σ : Hp} {Z : Hp} (x0 : Nat) (x1 : Int32) (h : kX7_forget σ x0 x1 = some Z) : GoC l G RX7 "forget" cX7_forget 4 none 1 24 n0 u0 none Z 0 [(0, G.rv x0), (1, .int x1)] [] σ := by
  unfold kX7_forget at h
  refine GC.aload_n 0 dX7_forget_0 rfl ?_
  refine GC.getr 7 0 rfl (by decide) (by decide) fw_X7_9 (Or.inl rfl) dX7_forget_1 h (fun v14 h => ?_)
  refine GoC.iload_n 1 dX7_forget_4 rfl ?_
  refine GoC.iconst 0 dX7_forget_5 (by decide) ?_
  refine GC.iast dX7_forget_6 h (fun σ15 h => ?_)
  refine GC.aload_n 0 dX7_forget_7 rfl ?_
  refine GoC.dup dX7_forget_8 (G.rv_cat _) ?_
  refine GC.geti 7 1 rfl (by decide) (by decide) fw_X7_52 (Or.inl rfl) dX7_forget_9 h (fun v16 h => ?_)
  refine GoC.iconst 1 dX7_forget_12 (by decide) ?_
  refine GoC.isub dX7_forget_13 ?_
  refine GC.puti 7 1 rfl (by decide) (by decide) (rfl) fw_X7_52 (Or.inl rfl) (Or.inl rfl) dX7_forget_14 h (fun σ17 h => ?_)
  refine GoC.iconst 0 dX7_forget_17 (by decide) ?_
  refine GoC.istore_n [(0, G.rv x0), (1, .int x1), (2, .int 0)] dX7_forget_18 (by decide) rfl ?_
  refine GoC.iconst 0 dX7_forget_19 (by decide) ?_
  refine GoC.istore_n [(0, G.rv x0), (1, .int x1), (2, .int 0), (3, .int 0)] dX7_forget_20 (by decide) rfl ?_
  exact ksX7_forget_21 _ _ _ _ _ _ h
set_option maxRecDepth 20000 in
theorem ktX7_forget {l : Launch} {G : Gt} {σ : Hp} (x0 : Nat) (x1 : Int32) : ∀ Z, kX7_forget σ x0 x1 = some Z → MtC l G yX7_forget cX7_forget 4 none 1 24 [G.rv x0, .int x1] σ none Z := fun Z h => MtC.at (by decide +kernel) ⟨G.rv_cat _, rfl, trivial⟩ (Nat.le_of_ble_eq_true rfl) (ksX7_forget x0 x1 h)
/-! X7_toldAt -/
def kX7_toldAt_32 (σ : Hp) (k2 : Nat → Int32 → Int32 → Int32 → Option (Int32)) (x0 : Nat) (x1 : Int32) (x2 : Int32) (x3 : Int32) : Option (Int32) := k2 x0 x1 x2 (x3 + 1)
def kX7_toldAt_2 (σ : Hp)  : Nat → Nat → Int32 → Int32 → Int32 → Option (Int32)
  | 0, _, _, _, _ => none
  | n + 1, x0, x1, x2, x3 => (gfi σ 17 705 x0).bind (fun v1 => if v1 ≤ x3 then some (-1) else (gfr σ 17 702 x0).bind (fun v2 => (ald σ 1 v2 x3).bind (fun v3 => if v3 = x1 then (gfr σ 17 703 x0).bind (fun v4 => (ald σ 1 v4 x3).bind (fun v5 => if v5 = x2 then some x3 else kX7_toldAt_32 σ (kX7_toldAt_2 σ n) x0 x1 x2 x3)) else kX7_toldAt_32 σ (kX7_toldAt_2 σ n) x0 x1 x2 x3)))
def kX7_toldAt (σ : Hp) (x0 : Nat) (x1 : Int32) (x2 : Int32) : Option (Int32) := kX7_toldAt_2 σ FU x0 x1 x2 0
set_option maxRecDepth 20000 in
theorem ksX7_toldAt_32 {l : Launch} {G : Gt} {n0 u0 : Nat} {σ : Hp} {Z : Int32} (k2 : Nat → Int32 → Int32 → Int32 → Option (Int32)) (h2 : ∀ (x0 : Nat) (x1 : Int32) (x2 : Int32) (x3 : Int32), k2 x0 x1 x2 x3 = some Z → GoC l G RX7 "toldAt" cX7_toldAt 4 (some .int) 0 0 n0 u0 (some (.int Z)) σ 2 [(0, G.rv x0), (1, .int x1), (2, .int x2), (3, .int x3)] [] σ) (x0 : Nat) (x1 : Int32) (x2 : Int32) (x3 : Int32) (h : kX7_toldAt_32 σ k2 x0 x1 x2 x3 = some Z) : GoC l G RX7 "toldAt" cX7_toldAt 4 (some .int) 0 0 n0 u0 (some (.int Z)) σ 32 [(0, G.rv x0), (1, .int x1), (2, .int x2), (3, .int x3)] [] σ := by
  unfold kX7_toldAt_32 at h
  refine GoC.iinc (w := 1) 3 [(0, G.rv x0), (1, .int x1), (2, .int x2), (3, .int (x3 + 1))] dX7_toldAt_32 rfl (by decide) (by decide) rfl ?_
  refine GoC.goto 2 dX7_toldAt_35 (by decide) ?_
  exact h2 _ _ _ _ h
set_option maxRecDepth 20000 in
theorem ksX7_toldAt_2 {l : Launch} {G : Gt} {n0 u0 : Nat} {σ : Hp} {Z : Int32} (n : Nat) : ∀ (x0 : Nat) (x1 : Int32) (x2 : Int32) (x3 : Int32), kX7_toldAt_2 σ n x0 x1 x2 x3 = some Z → GoC l G RX7 "toldAt" cX7_toldAt 4 (some .int) 0 0 n0 u0 (some (.int Z)) σ 2 [(0, G.rv x0), (1, .int x1), (2, .int x2), (3, .int x3)] [] σ := by
  induction n with
  | zero => intro x0 x1 x2 x3 h; rw [kX7_toldAt_2] at h; cases h
  | succ n ih =>
    intro x0 x1 x2 x3 h
    rw [kX7_toldAt_2] at h
    refine GoC.iload_n 3 dX7_toldAt_2 rfl ?_
    refine GC.aload_n 0 dX7_toldAt_3 rfl ?_
    refine GC.geti 7 5 rfl (by decide) (by decide) fw_X7_55 (Or.inl rfl) dX7_toldAt_4 h (fun v1 h => ?_)
    refine GoC.icmp_ge 38 dX7_toldAt_7 (by decide) h (fun h => ?_) (fun h => ?_)
    · refine GoC.iconst (-1) dX7_toldAt_38 (by decide) ?_
      cases h
      exact GoC.iret dX7_toldAt_39 rfl
    · refine GC.aload_n 0 dX7_toldAt_10 rfl ?_
      refine GC.getr 7 2 rfl (by decide) (by decide) fw_X7_15 (Or.inl rfl) dX7_toldAt_11 h (fun v2 h => ?_)
      refine GoC.iload_n 3 dX7_toldAt_14 rfl ?_
      refine GC.iald dX7_toldAt_15 h (fun v3 h => ?_)
      refine GoC.iload_n 1 dX7_toldAt_16 rfl ?_
      refine GoC.icmp_ne 32 dX7_toldAt_17 (by decide) h (fun h => ?_) (fun h => ?_)
      · exact ksX7_toldAt_32 _ ih _ _ _ _ h
      · refine GC.aload_n 0 dX7_toldAt_20 rfl ?_
        refine GC.getr 7 3 rfl (by decide) (by decide) fw_X7_18 (Or.inl rfl) dX7_toldAt_21 h (fun v4 h => ?_)
        refine GoC.iload_n 3 dX7_toldAt_24 rfl ?_
        refine GC.iald dX7_toldAt_25 h (fun v5 h => ?_)
        refine GoC.iload_n 2 dX7_toldAt_26 rfl ?_
        refine GoC.icmp_ne 32 dX7_toldAt_27 (by decide) h (fun h => ?_) (fun h => ?_)
        · exact ksX7_toldAt_32 _ ih _ _ _ _ h
        · refine GoC.iload_n 3 dX7_toldAt_30 rfl ?_
          cases h
          exact GoC.iret dX7_toldAt_31 rfl
set_option maxRecDepth 20000 in
theorem ksX7_toldAt {l : Launch} {G : Gt} {n0 u0 : Nat} {σ : Hp} {Z : Int32} (x0 : Nat) (x1 : Int32) (x2 : Int32) (h : kX7_toldAt σ x0 x1 x2 = some Z) : GoC l G RX7 "toldAt" cX7_toldAt 4 (some .int) 0 0 n0 u0 (some (.int Z)) σ 0 [(0, G.rv x0), (1, .int x1), (2, .int x2)] [] σ := by
  unfold kX7_toldAt at h
  refine GoC.iconst 0 dX7_toldAt_0 (by decide) ?_
  refine GoC.istore_n [(0, G.rv x0), (1, .int x1), (2, .int x2), (3, .int 0)] dX7_toldAt_1 (by decide) rfl ?_
  exact ksX7_toldAt_2 _ _ _ _ _ h
set_option maxRecDepth 20000 in
theorem ktX7_toldAt {l : Launch} {G : Gt} {σ : Hp} (x0 : Nat) (x1 : Int32) (x2 : Int32) : ∀ Z, kX7_toldAt σ x0 x1 x2 = some Z → MtC l G yX7_toldAt cX7_toldAt 4 (some .int) 0 0 [G.rv x0, .int x1, .int x2] σ (some (.int Z)) σ := fun Z h => MtC.at (by decide +kernel) ⟨G.rv_cat _, rfl, rfl, trivial⟩ (Nat.le_of_ble_eq_true rfl) (ksX7_toldAt x0 x1 x2 h)
