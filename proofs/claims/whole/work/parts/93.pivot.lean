section PIV
variable {σ : Hp} {S : MS} {V : Vt} {π : Nat → Nat}
/-- the one with the greatest number that is not chosen, the first of like ones -/
def pvb (V : Vt) (ls : Nat → Nat) (ch : Nat → Bool) : Nat → Option Nat
  | 0 => none
  | i + 1 => if hs V i ∧ ch i = false then (match pvb V ls ch i with | none => some i | some b => if ls b < ls i then some i else some b) else pvb V ls ch i
theorem pvb_hs {ls : Nat → Nat} {ch : Nat → Bool} : ∀ {i b : Nat}, pvb V ls ch i = some b → (hs V b ∧ ch b = false) ∧ b < i
  | 0, b, h => by cases h
  | i + 1, b, h => by
    unfold pvb at h
    split at h
    · rename_i q
      split at h
      · cases h; exact ⟨q, by omega⟩
      · split at h
        · cases h; exact ⟨q, by omega⟩
        · rename_i d hd _
          cases h
          have := pvb_hs hd
          exact ⟨this.1, by omega⟩
    · have := pvb_hs h
      exact ⟨this.1, by omega⟩
theorem pvb_none {ls : Nat → Nat} {ch : Nat → Bool} : ∀ {i : Nat}, pvb V ls ch i = none → ∀ t, t < i → hs V t → ch t = true
  | 0, _, t, ht, _ => absurd ht (Nat.not_lt_zero t)
  | i + 1, h, t, ht, hst => by
    unfold pvb at h
    split at h
    · split at h
      · cases h
      · split at h <;> cases h
    · rename_i q
      by_cases z : t = i
      · cases y : ch t with
        | true => rfl
        | false => exact absurd ⟨z ▸ hst, z ▸ y⟩ q
      · exact pvb_none h t (by omega) hst
def lsU (V : Vt) (ls : Nat → Nat) (p : Nat) : Nat → Nat := fun t => min (ls t) (far V p t)
theorem c_pivotAfter (h : Bv σ S V π) (sr : Sr σ) {ls : Nat → Nat} {ch : Nat → Bool} {p : Nat} (hp : hs V p) (hb : ∀ t, ls t ≤ 99) (hc : ∀ t, t < 40 → σ.ar 37 t = chI (ch t)) (hl : ∀ t, hs V t → ch t = false → σ.ar 36 t = nI (ls t)) : ∃ σ', kX8_pivotAfter σ 33 (nI p) = some (o2i (pvb V (lsU V ls p) ch 40), σ') ∧ Sv σ σ' ∧ σ'.ar 37 = σ.ar 37 ∧ ∀ t, hs V t → ch t = false → σ'.ar 36 t = nI (lsU V ls p t) := by
  have e40 : (40 : Int32) = nI 40 := rfl
  unfold kX8_pivotAfter
  refine lp 40 (fun F i (s : Hp) => kX8_pivotAfter_4 F 33 (nI p) (o2i (pvb V (lsU V ls p) ch i)) (nI i) s) (fun i s => Sv σ s ∧ s.ar 37 = σ.ar 37 ∧ ∀ t, hs V t → ch t = false → s.ar 36 t = nI (if t < i then lsU V ls p t else ls t)) (fun r => ∃ σ', r = some (o2i (pvb V (lsU V ls p) ch 40), σ') ∧ Sv σ σ' ∧ σ'.ar 37 = σ.ar 37 ∧ ∀ t, hs V t → ch t = false → σ'.ar 36 t = nI (lsU V ls p t)) (fun F s J => ?_) (fun F i s hi J => Or.inl ?_) 40 0 FU σ FU_gt rfl ⟨Sv.rfl, rfl, fun t h1 h2 => by rw [if_neg (Nat.not_lt_zero _)]; exact hl t h1 h2⟩
  · obtain ⟨j1, j2, j3⟩ := J
    refine ⟨s, ?_, j1, j2, fun t h1 h2 => by rw [j3 t h1 h2, if_pos h1.1]⟩
    show kX8_pivotAfter_4 (F + 1) 33 (nI p) (o2i (pvb V (lsU V ls p) ch 40)) (nI 40) s = _
    rw [kX8_pivotAfter_4.eq_2, if_pos (by decide)]
  · obtain ⟨j1, j2, j3⟩ := J
    have hS := h.sv j1
    have srS := sr.sv j1
    have f7 : gfr s 18 807 33 = some 36 := by rw [gfr_ok hS.1.1.1, srS.2.2.2.2.1]
    have f8 : gfr s 18 808 33 = some 37 := by rw [gfr_ok hS.1.1.1, srS.2.2.2.2.2]
    show ∃ a', _ ∧ kX8_pivotAfter_4 (F + 1) 33 (nI p) (o2i (pvb V (lsU V ls p) ch i)) (nI i) s = kX8_pivotAfter_4 F 33 (nI p) (o2i (pvb V (lsU V ls p) ch (i + 1))) (nI (i + 1)) a'
    rw [kX8_pivotAfter_4.eq_2, e40, if_neg (nI_ge hi (by decide)), pvb.eq_2, hS.1.s, bind_s, hS.1.k3, hS.c (show i < 2 ^ 31 by omega), bind_s, ite_bI, f8, bind_s, ald_ok srS.1.2.2.2 (by rw [srS.2.1.2.2.2]; exact hi) (by omega), bind_s, j2, hc i hi]
    have same : (¬ (hs V i ∧ ch i = false)) → (Sv σ s ∧ s.ar 37 = σ.ar 37 ∧ ∀ t, hs V t → ch t = false → s.ar 36 t = nI (if t < i + 1 then lsU V ls p t else ls t)) := fun z => ⟨j1, j2, fun t h1 h2 => by
      have : t ≠ i := fun y => z ⟨y ▸ h1, y ▸ h2⟩
      rw [j3 t h1 h2]
      by_cases y : t < i
      · rw [if_pos y, if_pos (by omega)]
      · rw [if_neg y, if_neg (by omega)]⟩
    by_cases q : hs V i
    · rw [if_pos q]
      cases c : ch i with
      | true =>
        rw [if_neg (by decide)]
        unfold kX8_pivotAfter_94
        rw [if_neg (fun y : hs V i ∧ true = false => by cases y.2), nI_1]
        exact ⟨s, same (fun y => by rw [c] at y; cases y.2), rfl⟩
      | false =>
        have b1 := far_le h.2.2 p i
        have b2 := hb i
        have li := j3 i q c
        rw [if_neg (Nat.lt_irrefl i)] at li
        have ai : ald s 1 36 (nI i) = some (nI (ls i)) := by rw [ald_ok srS.1.2.2.1 (by rw [srS.2.1.2.2.1]; exact hi) (by omega), li]
        rw [if_pos (show chI false = 0 from rfl), if_pos (show hs V i ∧ false = false from ⟨q, rfl⟩), hS.1.f, bind_s, hS.1.k19, hS.1.of hp q, bind_s, f7, bind_s, bind_s, ai, bind_s, bind_s, ai, bind_s]
        have e : (if nI (ls i) ≤ nI (far V p i) then kX8_pivotAfter_71 (kX8_pivotAfter_4 F) 33 (nI p) (o2i (pvb V (lsU V ls p) ch i)) (nI i) 36 (nI i) (nI (ls i)) s else kX8_pivotAfter_71 (kX8_pivotAfter_4 F) 33 (nI p) (o2i (pvb V (lsU V ls p) ch i)) (nI i) 36 (nI i) (nI (far V p i)) s) = kX8_pivotAfter_71 (kX8_pivotAfter_4 F) 33 (nI p) (o2i (pvb V (lsU V ls p) ch i)) (nI i) 36 (nI i) (nI (lsU V ls p i)) s := by
          unfold lsU
          by_cases z : ls i ≤ far V p i
          · rw [if_pos (nI_le z (by omega)), Nat.min_eq_left z]
          · rw [if_neg (nI_ge (by omega) (by omega)), Nat.min_eq_right (by omega)]
        rw [e]
        unfold kX8_pivotAfter_71
        rw [ast_saw srS.1.2.2.1 (by rw [srS.2.1.2.2.1]; exact hi) (by omega), bind_s]
        generalize hs1 : saw s 36 (upd (s.ar 36) i (nI (lsU V ls p i))) = s1
        have sv1 : Sv σ s1 := by rw [← hs1]; exact j1.trans (Sv.saw ⟨by omega, by omega⟩)
        have sr1 := sr.sv sv1
        have f71 : gfr s1 18 807 33 = some 36 := by rw [gfr_ok (h.1.sv sv1).1.1, sr1.2.2.2.2.1]
        have k3 : ∀ t, hs V t → ch t = false → s1.ar 36 t = nI (if t < i + 1 then lsU V ls p t else ls t) := fun t h1 h2 => by
          rw [← hs1, ar_saw]
          by_cases y : t = i
          · rw [y, upd_s, if_pos (by omega)]
          · rw [upd_n y, j3 t h1 h2]
            by_cases v : t < i
            · rw [if_pos v, if_pos (by omega)]
            · rw [if_neg v, if_neg (by omega)]
        have r37 : s1.ar 37 = σ.ar 37 := by rw [← hs1, ar_saw_ne (by decide)]; exact j2
        have ub : ∀ t, lsU V ls p t ≤ 99 := fun t => by
          unfold lsU
          have := hb t
          omega
        unfold kX8_pivotAfter_92 kX8_pivotAfter_94
        refine ⟨s1, ⟨sv1, r37, k3⟩, ?_⟩
        cases z : pvb V (lsU V ls p) ch i with
        | none => rw [if_pos (show o2i none = -1 from rfl), nI_1]; rfl
        | some b =>
          obtain ⟨⟨hb1, hb2⟩, hbi⟩ := pvb_hs z
          have b40 := hb1.1
          have u1 := ub i
          have u2 := ub b
          have av : ∀ t, hs V t → ch t = false → t < i + 1 → ald s1 1 36 (nI t) = some (nI (lsU V ls p t)) := fun t h1 h2 h3 => by rw [ald_ok sr1.1.2.2.1 (by rw [sr1.2.1.2.2.1]; omega) (by omega), k3 t h1 h2, if_pos h3]
          rw [if_neg (show ¬ o2i (some b) = -1 from fun y => (nI_m1 (by omega)).mp y), f71, bind_s, av i q c (by omega), bind_s, bind_s, show o2i (some b) = nI b from rfl, av b hb1 hb2 (by omega), bind_s, nI_1]
          by_cases y : lsU V ls p b < lsU V ls p i
          · rw [if_neg (nI_ge y (by omega))]
            simp only [if_pos y]
            rfl
          · rw [if_pos (nI_le (by omega) (by omega))]
            simp only [if_neg y]
            rfl
    · rw [if_neg q, if_neg (fun y => q y.1)]
      unfold kX8_pivotAfter_94
      rw [nI_1]
      exact ⟨s, same (fun y => q y.1), rfl⟩
/-- the reference's row of the pivots -/
def Up (T : MS) (V : Vt) (ch : Nat → Bool) (ls : Nat → Nat) : Prop := ∀ t, t < 40 → T.1 23 t = if hs V t ∧ ch t = false then nI (ls t) else -1
theorem r_piv129 {k60 : Int32 → Int32 → Int32 → MS → Option (Int32 × MS)} {x1 x4 : Int32} {T : MS} {ch : Nat → Bool} {ls : Nat → Nat} (hb : ∀ t, ls t ≤ 2000000000) (hu : Up T V ch ls) : r_pivot_129 k60 FU x1 (-1) x4 0 T = k60 x1 (o2i (pvb V ls ch 40)) (x4 + 1) T := by
  have e40 : (40 : Int32) = nI 40 := rfl
  refine lp 40 (fun F i (_ : Unit) => r_pivot_129 k60 F x1 (o2i (pvb V ls ch i)) x4 (nI i) T) (fun _ _ => True) (fun r => r = k60 x1 (o2i (pvb V ls ch 40)) (x4 + 1) T) (fun F _ _ => ?_) (fun F i _ hi _ => Or.inl ⟨(), trivial, ?_⟩) 40 0 FU () FU_gt rfl trivial
  · show r_pivot_129 k60 (F + 1) x1 (o2i (pvb V ls ch 40)) x4 (nI 40) T = _
    rw [r_pivot_129.eq_2, if_pos (by decide)]
  · have rdi : ∀ t, t < 40 → rd T 23 (nI t) = some (if hs V t ∧ ch t = false then nI (ls t) else -1) := fun t ht => by rw [rd_ok (show t < m_len 23 by rw [len23]; exact ht) (by omega), hu t ht]
    show r_pivot_129 k60 (F + 1) x1 (o2i (pvb V ls ch i)) x4 (nI i) T = r_pivot_129 k60 F x1 (o2i (pvb V ls ch (i + 1))) x4 (nI (i + 1)) T
    rw [r_pivot_129.eq_2, e40, if_neg (nI_ge hi (by decide)), rdi i hi, bind_s, pvb.eq_2]
    unfold r_pivot_168 r_pivot_171
    by_cases q : hs V i ∧ ch i = false
    · have l1 := hb i
      rw [if_pos q, if_pos q, if_neg (fun y => (nI_m1 (by omega)).mp y)]
      cases z : pvb V ls ch i with
      | none => rw [if_pos (show o2i none = -1 from rfl), nI_1]; rfl
      | some b =>
        obtain ⟨hb1, hbi⟩ := pvb_hs z
        have b40 := hb1.1.1
        have l2 := hb b
        rw [if_neg (show ¬ o2i (some b) = -1 from fun y => (nI_m1 (by omega)).mp y), bind_s, show o2i (some b) = nI b from rfl, rdi b b40, bind_s, if_pos hb1, nI_1]
        by_cases y : ls b < ls i
        · rw [if_neg (nI_ge y (by omega))]
          simp only [if_pos y]
          rfl
        · rw [if_pos (nI_le (by omega) (by omega))]
          simp only [if_neg y]
          rfl
    · rw [if_neg q, if_neg q, if_pos rfl, nI_1]
theorem r_piv76 (h : Bv σ S V π) {k60 : Int32 → Int32 → Int32 → MS → Option (Int32 × MS)} {x1 x4 : Int32} {ch : Nat → Bool} {ls : Nat → Nat} {p : Nat} (hp : hs V p) (hb : ∀ t, ls t ≤ 2000000000) (hu : Up S V ch ls) : ∃ S', r_pivot_76 k60 FU x1 (nI p) x4 0 S = r_pivot_129 k60 FU x1 (-1) x4 0 S' ∧ Rk S S' ∧ Up S' V ch (lsU V ls p) := by
  have e40 : (40 : Int32) = nI 40 := rfl
  refine lp 40 (fun F i (T : MS) => r_pivot_76 k60 F x1 (nI p) x4 (nI i) T) (fun i T => Rk S T ∧ ∀ t, t < 40 → T.1 23 t = if hs V t ∧ ch t = false then nI (if t < i then lsU V ls p t else ls t) else -1) (fun r => ∃ S', r = r_pivot_129 k60 FU x1 (-1) x4 0 S' ∧ Rk S S' ∧ Up S' V ch (lsU V ls p)) (fun F T J => ?_) (fun F i T hi J => Or.inl ?_) 40 0 FU S FU_gt rfl ⟨Rk.rfl, fun t ht => by rw [if_neg (Nat.not_lt_zero _)]; exact hu t ht⟩
  · refine ⟨T, ?_, J.1, fun t ht => by rw [J.2 t ht, if_pos ht]⟩
    show r_pivot_76 k60 (F + 1) x1 (nI p) x4 (nI 40) T = _
    rw [r_pivot_76.eq_2, if_pos (by decide)]
  · obtain ⟨j1, j2⟩ := J
    have ri : rd T 23 (nI i) = some (if hs V i ∧ ch i = false then nI (ls i) else -1) := by rw [rd_ok (show i < m_len 23 by rw [len23]; exact hi) (by omega), j2 i hi, if_neg (Nat.lt_irrefl i)]
    have ext : ∀ t, t ≠ i → (if t < i then lsU V ls p t else ls t) = (if t < i + 1 then lsU V ls p t else ls t) := fun t ht => by
      by_cases y : t < i
      · rw [if_pos y, if_pos (by omega)]
      · rw [if_neg y, if_neg (by omega)]
    show ∃ a', _ ∧ r_pivot_76 k60 (F + 1) x1 (nI p) x4 (nI i) T = r_pivot_76 k60 F x1 (nI p) x4 (nI (i + 1)) a'
    rw [r_pivot_76.eq_2, e40, if_neg (nI_ge hi (by decide)), ri, bind_s]
    unfold r_pivot_118
    by_cases q : hs V i ∧ ch i = false
    · have l1 := hb i
      have fl := far_le h.2.2 p i
      obtain ⟨T1, g1, g2⟩ := (h.rk j1).fa hp q.1
      rw [if_pos q, if_neg (fun y => (nI_m1 (by omega)).mp y), bind_s, g1, bd2_s, r_lesser_eq (by omega) (by omega), bind_s, wr_ok (show i < m_len 23 by rw [len23]; exact hi) (by omega), bind_s, nI_1]
      refine ⟨_, ⟨(j1.trans g2.rk).trans (Rk.wr (by omega)), fun t ht => ?_⟩, rfl⟩
      show up2 T1.1 23 i _ 23 t = _
      by_cases y : t = i
      · rw [y, up2_s, if_pos q, if_pos (by omega)]; rfl
      · rw [up2_i y, g2.r (by decide) (by decide), j2 t ht, ext t y]
    · rw [if_neg q, if_pos rfl, nI_1]
      refine ⟨T, ⟨j1, fun t ht => ?_⟩, rfl⟩
      rw [j2 t ht]
      by_cases y : t = i
      · rw [y, if_neg q, if_neg q]
      · rw [ext t y]
set_option maxHeartbeats 1000000 in
theorem j_piv {i : Nat} (hi : i < cn V) : ∀ (m n F F' : Nat) (ls lr : Nat → Nat) (ch : Nat → Bool) (last : Option Nat) (σ : Hp) (S : MS), n + m = i → m < F → m < F' → Bv σ S V π → Sr σ → Cl V ch last n → (∀ t, t < 40 → σ.ar 37 t = chI (ch t)) → (∀ t, hs V t → ch t = false → σ.ar 36 t = nI (ls t)) → Up S V ch lr → (∀ t, ls t ≤ 99) → (∀ t, lr t ≤ 2000000000) → (∀ t, min (ls t) 99 = min (lr t) 99) → ∃ σ' S' r, kX8_pivotAt_24 F 33 (nI i) (o2i last) (nI n) σ = some (r, σ') ∧ r_pivot_60 F' (nI i) (o2i last) (nI n) S = some (r, S') ∧ Sv σ σ' ∧ Rk S S' := by
  have c40 := cn_le V
  intro m
  induction m with
  | zero =>
    intro n F F' ls lr ch last σ S hn hF hF' h sr cl hc hl hu b1 b2 eq
    obtain ⟨F, rfl⟩ : ∃ F0, F = F0 + 1 := ⟨F - 1, by omega⟩
    obtain ⟨F', rfl⟩ : ∃ F0, F' = F0 + 1 := ⟨F' - 1, by omega⟩
    rw [kX8_pivotAt_24.eq_2, if_pos (nI_le (by omega) (by omega)), r_pivot_60.eq_2, if_pos (nI_le (by omega) (by omega))]
    exact ⟨σ, S, _, rfl, rfl, Sv.rfl, Rk.rfl⟩
  | succ m ih =>
    intro n F F' ls lr ch last σ S hn hF hF' h sr cl hc hl hu b1 b2 eq
    obtain ⟨F, rfl⟩ : ∃ F0, F = F0 + 1 := ⟨F - 1, by omega⟩
    obtain ⟨F', rfl⟩ : ∃ F0, F' = F0 + 1 := ⟨F' - 1, by omega⟩
    obtain ⟨p, rfl⟩ : ∃ l, last = some l := by
      cases z : last with
      | some l => exact ⟨l, rfl⟩
      | none =>
        have := cc_all cl.1 (cl.2.2.2 z)
        have := cl.2.2.1
        omega
    obtain ⟨a1, a2⟩ := cl.2.1 p rfl
    have p40 := a1.1
    have nm : ¬ o2i (some p) = -1 := fun y => (nI_m1 (by omega)).mp y
    have f8 : gfr σ 18 808 33 = some 37 := by rw [gfr_ok h.1.1.1, sr.2.2.2.2.2]
    have w37 : ast σ 1 37 (nI p) 1 = some (saw σ 37 (upd (σ.ar 37) p 1)) := ast_saw sr.1.2.2.2 (by rw [sr.2.1.2.2.2]; omega) (by omega)
    generalize hs2 : saw σ 37 (upd (σ.ar 37) p 1) = σ2 at w37
    have sv2 : Sv σ σ2 := by rw [← hs2]; exact Sv.saw ⟨by omega, by omega⟩
    have sr2 := sr.sv sv2
    have h2 := h.sv sv2
    have hc2 : ∀ t, t < 40 → σ2.ar 37 t = chI (upb ch p t) := fun t ht => by
      rw [← hs2, ar_saw]
      unfold upb
      by_cases z : t = p
      · rw [z, upd_s, if_pos rfl]; rfl
      · rw [upd_n z, if_neg z]; exact hc t ht
    have un : ∀ t, upb ch p t = false → ch t = false := fun t ht => by
      unfold upb at ht
      by_cases z : t = p
      · rw [if_pos z] at ht; cases ht
      · rw [if_neg z] at ht; exact ht
    obtain ⟨σ3, g1, g2, g3, g4⟩ := c_pivotAfter h2 sr2 (ls := ls) (ch := upb ch p) a1 b1 hc2 (fun t h1 h2 => by rw [← hs2, ar_saw_ne (by decide)]; exact hl t h1 (un t h2))
    have r23 : wr S 23 (nI p) (-1) = some (up2 S.1 23 p (-1), S.2) := wr_ok (show p < m_len 23 by rw [len23]; omega) (by omega)
    have rk1 : Rk S (up2 S.1 23 p (-1), S.2) := Rk.wr (by omega)
    have uT : Up (up2 S.1 23 p (-1), S.2) V (upb ch p) lr := fun t ht => by
      show up2 S.1 23 p (-1) 23 t = _
      unfold upb
      by_cases z : t = p
      · rw [z, up2_s, if_neg (fun y => by have := y.2; rw [if_pos rfl] at this; cases this)]
      · rw [up2_i z, hu t ht, if_neg z]
    obtain ⟨T2, k1, k2, k3⟩ := r_piv76 (k60 := r_pivot_60 F') (x1 := nI i) (x4 := nI n) (h.rk rk1) a1 b2 uT
    have le : lsU V ls p = lsU V lr p := funext fun t => by
      unfold lsU
      have := eq t
      have := far_le h.2.2 p t
      omega
    have b3 : ∀ t, lsU V lr p t ≤ 99 := fun t => by
      rw [← le]
      unfold lsU
      have := b1 t
      omega
    rw [kX8_pivotAt_24.eq_2, if_neg (nI_ge (by omega) (by omega)), show (40 : Int32) = nI 40 from rfl, if_neg (nI_ge (by omega) (by omega)), if_neg nm, f8, bind_s, show o2i (some p) = nI p from rfl, w37, bind_s, h2.1.k33, g1, bd2_s, nI_1]
    rw [r_pivot_60.eq_2, if_neg (nI_ge (by omega) (by omega)), r23, bind_s, k1, r_piv129 (fun t => Nat.le_trans (b3 t) (by omega)) k3, nI_1, le]
    obtain ⟨σ', S', r, y1, y2, y3, y4⟩ := ih (n + 1) F F' (lsU V ls p) (lsU V lr p) (upb ch p) (pvb V (lsU V lr p) (upb ch p) 40) σ3 T2 (by omega) (by omega) (by omega) ((h2.sv g2).rk (rk1.trans k2)) (sr2.sv g2) ⟨fun t ht => by
        unfold upb at ht
        by_cases y : t = p
        · rw [y]; exact a1
        · rw [if_neg y] at ht; exact cl.1 t ht, fun b hb => (pvb_hs hb).1, by rw [cc_up p40 a2, cl.2.2.1], fun hh => pvb_none hh⟩ (fun t ht => by rw [g3]; exact hc2 t ht) g4 k3 (fun t => by rw [le]; exact b3 t) (fun t => Nat.le_trans (b3 t) (by omega)) (fun t => by rw [le])
    exact ⟨σ', S', r, y1, y2, (sv2.trans g2).trans y3, (rk1.trans k2).trans y4⟩
theorem mdl_none : ∀ {i : Nat}, mdl V i = none → ∀ t, t < i → ¬ hs V t
  | 0, _, t, ht => absurd ht (Nat.not_lt_zero t)
  | i + 1, h, t, ht => by
    unfold mdl at h
    split at h
    · split at h
      · cases h
      · split at h <;> cases h
    · rename_i q
      by_cases z : t = i
      · rw [z]; exact q
      · exact mdl_none h t (by omega)
theorem j_pivot (h : Bv σ S V π) (sr : Sr σ) {i : Nat} (hi : i < cn V) : ∃ σ' S' r, kX8_pivotAt σ 33 (nI i) = some (r, σ') ∧ r_pivot_20 FU (nI i) 0 S = some (r, S') ∧ Sv σ σ' ∧ Rk S S' := by
  have e40 : (40 : Int32) = nI 40 := rfl
  have e0 : (0 : Int32) = nI 0 := rfl
  have c40 := cn_le V
  have f8 : gfr σ 18 808 33 = some 37 := by rw [gfr_ok h.1.1.1, sr.2.2.2.2.2]
  obtain ⟨s1, g1, g2, g3, g4⟩ := c_fill (v := 0) sr.1.2.2.2 sr.2.1.2.2.2
  have sv1 := Sv.dr g2 g3 ⟨by omega, by omega⟩
  have sr1 := sr.sv sv1
  have f7 : gfr s1 18 807 33 = some 36 := by rw [gfr_ok (h.1.sv sv1).1.1, sr1.2.2.2.2.1]
  obtain ⟨s2, k1, k2, k3, k4⟩ := c_fill (v := 99) sr1.1.2.2.1 sr1.2.1.2.2.1
  have sv2 := sv1.trans (Sv.dr k2 k3 ⟨by omega, by omega⟩)
  have h2 := h.sv sv2
  unfold kX8_pivotAt
  rw [f8, bind_s, g1, bind_s, f7, bind_s, k1, bind_s, h2.1.k33, c_middle h2, bind_s]
  have lo := lp 40 (fun F x (T : MS) => r_pivot_20 F (nI i) (nI x) T) (fun x T => Rk S T ∧ ∀ t, t < x → T.1 23 t = if hs V t then nI 2000000000 else -1) (fun r => ∃ T, r = bd2 (r_middle T) (fun v12 S13 => r_pivot_60 FU (nI i) v12 0 S13) ∧ Rk S T ∧ ∀ t, t < 40 → T.1 23 t = if hs V t then nI 2000000000 else -1) (fun F T J => ?_) (fun F x T hx J => Or.inl ?_) 40 0 FU S FU_gt rfl ⟨Rk.rfl, fun x hx => absurd hx (Nat.not_lt_zero _)⟩
  · obtain ⟨T, m1, m2, m3⟩ := lo
    have hT := h2.rk m2
    obtain ⟨T1, n1, n2⟩ := r_middle_eq hT
    rw [e0, m1, n1, bd2_s, e0]
    obtain ⟨σ', S', r, y1, y2, y3, y4⟩ := j_piv (V := V) (π := π) hi i 0 FU FU (fun _ => 99) (fun _ => 2000000000) (fun _ => false) (mdl V 40) s2 T1 (by omega) (FU_gt (by omega)) (FU_gt (by omega)) (hT.s2 n2) (sr.sv sv2) ⟨fun x hx => (by cases hx), fun l hl => ⟨mdl_hs hl, rfl⟩, rfl, fun hh t ht hst => absurd hst (mdl_none hh t ht)⟩ (fun x hx => by rw [(k2.2 37 (by decide)).2]; exact g4 x hx) (fun x h1 _ => k4 x h1.1) (fun x hx => by
      rw [n2.r (by decide) (by decide), m3 x hx]
      by_cases z : hs V x
      · rw [if_pos z, if_pos ⟨z, rfl⟩]
      · rw [if_neg z, if_neg (fun y => z y.1)]) (fun _ => Nat.le_refl _) (fun _ => Nat.le_refl _) (fun _ => rfl)
    exact ⟨σ', S', r, y1, y2, sv2.trans y3, (m2.trans n2.rk).trans y4⟩
  · refine ⟨T, ?_, J⟩
    show r_pivot_20 (F + 1) (nI i) (nI 40) T = _
    rw [r_pivot_20.eq_2, if_pos (by decide)]
  · obtain ⟨j1, j2⟩ := J
    show ∃ a', _ ∧ r_pivot_20 (F + 1) (nI i) (nI x) T = _
    rw [r_pivot_20.eq_2, e40, if_neg (nI_ge hx (by decide)), (h.rk j1).r (show x < 2 ^ 31 by omega), bind_s, ite_bI]
    unfold r_pivot_45
    have w : ∀ v : Int32, wr T 23 (nI x) v = some (up2 T.1 23 x v, T.2) := fun v => wr_ok (show x < m_len 23 by rw [len23]; omega) (by omega)
    have nx : ∀ v : Int32, v = (if hs V x then nI 2000000000 else -1) → (Rk S (up2 T.1 23 x v, T.2) ∧ ∀ t, t < x + 1 → up2 T.1 23 x v 23 t = if hs V t then nI 2000000000 else -1) := fun v hv => ⟨j1.trans (Rk.wr (by omega)), fun t ht => by
      by_cases z : t = x
      · rw [z, up2_s, hv]
      · rw [up2_i z]; exact j2 t (by omega)⟩
    by_cases q : hs V x
    · rw [if_pos q, w, bind_s, nI_1]
      exact ⟨_, nx 2000000000 (by rw [if_pos q]; rfl), rfl⟩
    · rw [if_neg q, w, bind_s, nI_1]
      exact ⟨_, nx (-1) (by rw [if_neg q]), rfl⟩
end PIV
