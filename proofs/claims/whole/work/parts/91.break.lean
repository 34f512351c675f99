theorem bI_0' {α : Type} {p : Prop} [Decidable p] {a b : α} : (if bI p = 0 then a else b) = if ¬ p then a else b := by
  unfold bI
  by_cases h : p
  · simp [h]
  · simp [h]
section BRK
variable {σ : Hp} {S : MS} {V : Vt} {π : Nat → Nat}
def frF (V : Vt) (w a : Nat) : Nat → Option (Nat × Int32) := fun b => if hs V b ∧ b ≠ a then (tbk V w a b).map (fun c => (b, c)) else none
def frm (V : Vt) (w a : Nat) : Option (Nat × Int32) := ffi (frF V w a) 40 0
def brF (V : Vt) (w : Nat) : Nat → Option (Nat × Nat × Int32) := fun a => if hs V a then (frm V w a).map (fun p => (a, p.1, p.2)) else none
/-- the first break of a kind -/
def brk (V : Vt) (w : Nat) : Option (Nat × Nat × Int32) := if w = 0 then none else ffi (brF V w) 40 0
theorem c_from (h : Bv σ S V π) {w a : Nat} (hw : w < 4) (h0 : w ≠ 0) (ha : hs V a) (h4 : σ.fi 804 33 = -1) : ∃ σ', kX8_breaksFrom σ 33 (nI w) (nI a) = some (bI ((frm V w a).isSome = true), σ') ∧ Sv σ σ' ∧ (frm V w a = none → σ' = σ) ∧ (∀ p, frm V w a = some p → σ'.fi 803 33 = nI p.1 ∧ σ'.fi 804 33 = p.2) := by
  have a40 := ha.1
  have e40 : (40 : Int32) = nI 40 := rfl
  unfold kX8_breaksFrom
  rw [if_neg (nI_ne0 (by omega) (by omega))]
  refine lp 40 (fun F i (_ : Unit) => kX8_breaksFrom_24 F 33 (nI w) (nI a) (nI i) σ) (fun i _ => frm V w a = ffi (frF V w a) (40 - i) i) (fun r => ∃ σ', r = some (bI ((frm V w a).isSome = true), σ') ∧ Sv σ σ' ∧ (frm V w a = none → σ' = σ) ∧ (∀ p, frm V w a = some p → σ'.fi 803 33 = nI p.1 ∧ σ'.fi 804 33 = p.2)) (fun F _ j => ?_) (fun F i _ hi j => ?_) 40 0 FU () FU_gt rfl rfl
  · have j : frm V w a = none := j
    refine ⟨σ, ?_, Sv.rfl, fun _ => rfl, fun p hp => by rw [j] at hp; cases hp⟩
    show kX8_breaksFrom_24 (F + 1) 33 (nI w) (nI a) (nI 40) σ = _
    rw [j, kX8_breaksFrom_24.eq_2, if_pos (by decide)]
    rfl
  · rw [ffi_at hi] at j
    show (∃ a', _ ∧ kX8_breaksFrom_24 (F + 1) 33 (nI w) (nI a) (nI i) σ = kX8_breaksFrom_24 F 33 (nI w) (nI a) (nI (i + 1)) σ) ∨ ∃ σ', kX8_breaksFrom_24 (F + 1) 33 (nI w) (nI a) (nI i) σ = _ ∧ _
    rw [kX8_breaksFrom_24.eq_2, e40, if_neg (nI_ge hi (by decide))]
    simp only [h.1.s, h.1.k3, h.1.k33, bind_s, h.c (show i < 2 ^ 31 by omega), ite_bI]
    unfold kX8_breaksFrom_63
    by_cases q1 : i = a
    · rw [if_pos (by rw [q1]), nI_1]
      have e : frF V w a i = none := if_neg (fun y => y.2 q1)
      rw [e] at j
      exact Or.inl ⟨(), j, rfl⟩
    · rw [if_neg (fun y => q1 ((nI_eq (by omega) (by omega)).mp y))]
      by_cases q3 : hs V i
      · obtain ⟨s1, g1, g2, g3, g4⟩ := c_btw h hw ha q3 h4
        have e : frF V w a i = (tbk V w a i).map (fun c => (i, c)) := if_pos ⟨q3, q1⟩
        rw [e] at j
        rw [if_pos q3, g1, bd2_s, bI_0']
        cases z : tbk V w a i with
        | none =>
          rw [z] at j
          rw [if_pos (by simp), g3 z, nI_1]
          exact Or.inl ⟨(), j, rfl⟩
        | some c =>
          rw [z] at j
          have j : frm V w a = some (i, c) := j
          rw [if_neg (by simp), pfi_ok (h.1.sv g2).1.1, bind_s, j]
          refine Or.inr ⟨_, rfl, g2.trans Sv.sfi, fun hh => (by cases hh), fun p hp => ?_⟩
          cases hp
          exact ⟨by rw [fi_sfi, if_pos ⟨rfl, rfl⟩], by rw [fi_sfi, if_neg (by omega)]; exact g4 c z⟩
      · have e : frF V w a i = none := if_neg (fun y => q3 y.1)
        rw [e] at j
        rw [if_neg q3, nI_1]
        exact Or.inl ⟨(), j, rfl⟩
theorem c_from0 (h : Bv σ S V π) {a : Nat} (ha : hs V a) : kX8_breaksFrom σ 33 0 (nI a) = some (0, σ) := by
  unfold kX8_breaksFrom
  rw [if_pos rfl, h.1.f, bind_s, h.1.k19, h.1.of ha ha, bind_s, far_self h.2.2, if_pos (show nI 0 = 0 from rfl)]
  rfl
theorem c_findBreak (h : Bv σ S V π) {w : Nat} (hw : w < 4) : ∃ σ', kX8_findBreak σ 33 (nI w) = some (bI ((brk V w).isSome = true), σ') ∧ Sv σ σ' ∧ (∀ p, brk V w = some p → σ'.fi 802 33 = nI p.1 ∧ σ'.fi 803 33 = nI p.2.1 ∧ σ'.fi 804 33 = p.2.2) := by
  have e40 : (40 : Int32) = nI 40 := rfl
  have k33 := h.1.1.1
  unfold kX8_findBreak
  rw [pfi_ok k33, bind_s, pfi_ok (show (sfi σ 802 33 (-1)).kd 33 = 18 from k33), bind_s, pfi_ok (show (sfi (sfi σ 802 33 (-1)) 803 33 (-1)).kd 33 = 18 from k33), bind_s, if_neg (nI_pos (by omega)), show (3 : Int32) = nI 3 from rfl, if_pos (nI_le (by omega) (by omega))]
  generalize hs0 : sfi (sfi (sfi σ 802 33 (-1)) 803 33 (-1)) 804 33 (-1) = s0
  have sv0 : Sv σ s0 := by rw [← hs0]; exact (Sv.sfi.trans Sv.sfi).trans Sv.sfi
  have h0 := h.sv sv0
  have i4 : s0.fi 804 33 = -1 := by rw [← hs0, fi_sfi, if_pos ⟨rfl, rfl⟩]
  refine lp 40 (fun F i (_ : Unit) => kX8_findBreak_28 F 33 (nI w) (nI i) s0) (fun i _ => brk V w = if w = 0 then none else ffi (brF V w) (40 - i) i) (fun r => ∃ σ', r = some (bI ((brk V w).isSome = true), σ') ∧ Sv σ σ' ∧ (∀ p, brk V w = some p → σ'.fi 802 33 = nI p.1 ∧ σ'.fi 803 33 = nI p.2.1 ∧ σ'.fi 804 33 = p.2.2)) (fun F _ j => ?_) (fun F i _ hi j => ?_) 40 0 FU () FU_gt rfl rfl
  · have j : brk V w = none := by
      rw [j]
      split <;> rfl
    refine ⟨s0, ?_, sv0, fun p hp => by rw [j] at hp; cases hp⟩
    show kX8_findBreak_28 (F + 1) 33 (nI w) (nI 40) s0 = _
    rw [j, kX8_findBreak_28.eq_2, if_pos (by decide)]
    rfl
  · rw [ffi_at hi] at j
    show (∃ a', _ ∧ kX8_findBreak_28 (F + 1) 33 (nI w) (nI i) s0 = kX8_findBreak_28 F 33 (nI w) (nI (i + 1)) s0) ∨ ∃ σ', kX8_findBreak_28 (F + 1) 33 (nI w) (nI i) s0 = _ ∧ _
    rw [kX8_findBreak_28.eq_2, e40, if_neg (nI_ge hi (by decide))]
    simp only [h0.1.s, h0.1.k3, h0.1.k33, bind_s, h0.c (show i < 2 ^ 31 by omega), ite_bI]
    unfold kX8_findBreak_61
    by_cases q3 : hs V i
    · have e : brF V w i = (frm V w i).map (fun p => (i, p.1, p.2)) := if_pos q3
      rw [e] at j
      rw [if_pos q3]
      by_cases w0 : w = 0
      · subst w0
        have g1 : kX8_breaksFrom s0 33 (nI 0) (nI i) = some (0, s0) := c_from0 h0 q3
        rw [g1, bd2_s, if_pos rfl, nI_1]
        exact Or.inl ⟨(), j, rfl⟩
      · rw [if_neg w0] at j
        obtain ⟨s1, g1, g2, g3, g4⟩ := c_from h0 hw w0 q3 i4
        rw [g1, bd2_s, bI_0']
        cases z : frm V w i with
        | none =>
          rw [z] at j
          rw [if_pos (show ¬ ((none : Option (Nat × Int32)).isSome = true) by simp), g3 z, nI_1]
          exact Or.inl ⟨(), by rw [if_neg w0]; exact j, rfl⟩
        | some p =>
          rw [z] at j
          have j : brk V w = some (i, p.1, p.2) := j
          rw [if_neg (show ¬ ¬ ((some p).isSome = true) by simp), pfi_ok (h0.1.sv g2).1.1, bind_s, j]
          refine Or.inr ⟨_, rfl, (sv0.trans g2).trans Sv.sfi, fun r hr => ?_⟩
          cases hr
          obtain ⟨k1, k2⟩ := g4 p z
          exact ⟨by rw [fi_sfi, if_pos ⟨rfl, rfl⟩], by rw [fi_sfi, if_neg (by omega)]; exact k1, by rw [fi_sfi, if_neg (by omega)]; exact k2⟩
    · have e : brF V w i = none := if_neg q3
      rw [e] at j
      rw [if_neg q3, nI_1]
      exact Or.inl ⟨(), j, rfl⟩
theorem len22 : m_len 22 = 3 := rfl
/-- the reference: a break between two, or the thing itself -/
theorem r_brk85 (h : Bv σ S V π) {w a b : Nat} {k9 : Int32 → Int32 → MS → Option (Int32 × MS)} {k17 : Int32 → Int32 → Int32 → MS → Option (Int32 × MS)} (hw : w < 4) (h0 : w ≠ 0) (ha : hs V a) (hb : hs V b) (h2 : S.1 22 2 = -1) : ∃ S', Rk S S' ∧ (match tbk V w a b with | none => r_findBroken_85 k9 k17 (nI w) (nI a) (nI b) 1 (nI b) S = k17 (nI w) (nI a) (nI (b + 1)) S' ∧ S'.1 22 2 = -1 | some c => r_findBroken_85 k9 k17 (nI w) (nI a) (nI b) 1 (nI b) S = some (1, S') ∧ S'.1 22 0 = S.1 22 0 ∧ S'.1 22 1 = nI b ∧ S'.1 22 2 = c) := by
  unfold r_findBroken_85
  rw [show (1 : Int32) = nI 1 from rfl, wr_ok (show 1 < m_len 22 by rw [len22]; omega) (by omega), bind_s, if_neg (nI_ne0 (by omega) (by omega))]
  generalize hT : ((up2 S.1 22 1 (nI b), S.2) : MS) = T
  have rk : Rk S T := by rw [← hT]; exact Rk.wr (by omega)
  have hT' := h.rk rk
  have t0 : T.1 22 0 = S.1 22 0 := by rw [← hT]; show up2 S.1 22 1 (nI b) 22 0 = _; exact up2_i (by omega)
  have t1 : T.1 22 1 = nI b := by rw [← hT]; show up2 S.1 22 1 (nI b) 22 1 = _; exact up2_s
  have t2 : T.1 22 2 = -1 := by rw [← hT, ← h2]; show up2 S.1 22 1 (nI b) 22 2 = _; exact up2_i (by omega)
  unfold r_findBroken_131
  by_cases w3 : w = 3
  · subst w3
    rw [if_pos (by decide)]
    obtain ⟨T1, g1, g2, g3, g4⟩ := r_third hT' ha hb
    rw [g1, bd2_s, bI_0']
    have e : tbk V 3 a b = (thd V a b).map nI := rfl
    rw [e]
    cases z : thd V a b with
    | none =>
      rw [z] at g4
      refine ⟨T1, rk.trans g2, ?_, by rw [g4]; exact t2⟩
      rw [if_pos (by simp), nI_1]
    | some c =>
      rw [z] at g4
      refine ⟨T1, rk.trans g2, ?_, by rw [g3 0 (by omega)]; exact t0, by rw [g3 1 (by omega)]; exact t1, g4⟩
      rw [if_neg (by simp)]
      rfl
  · rw [if_neg (show ¬ (3 : Int32) ≤ nI w from nI_ge (b := 3) (by omega) (by omega))]
    obtain ⟨T1, g1, g2, g3⟩ := r_btw hT' (w := w) (by omega) ha hb
    rw [g1, bd2_s, bI_0']
    have r22 : T1.1 22 = T.1 22 := g2.r (by decide) (by decide)
    cases z : tbk V w a b with
    | none =>
      refine ⟨T1, rk.trans g2.rk, ?_, by rw [r22]; exact t2⟩
      rw [if_pos (by simp), nI_1]
    | some c =>
      refine ⟨T1, rk.trans g2.rk, ?_, by rw [r22]; exact t0, by rw [r22]; exact t1, by rw [r22, g3 c z]; exact t2⟩
      rw [if_neg (by simp)]
      rfl
set_option maxHeartbeats 1000000 in
theorem r_findBroken_eq (h : Bv σ S V π) {w : Nat} (hw : w < 4) : ∃ S', r_findBroken S (nI w) = some (bI ((brk V w).isSome = true), S') ∧ Rk S S' ∧ (∀ p, brk V w = some p → S'.1 22 0 = nI p.1 ∧ S'.1 22 1 = nI p.2.1 ∧ S'.1 22 2 = p.2.2) := by
  have e40 : (40 : Int32) = nI 40 := rfl
  unfold r_findBroken
  rw [show (2 : Int32) = nI 2 from rfl, wr_ok (show 2 < m_len 22 by rw [len22]; omega) (by omega), bind_s]
  have rk0 : Rk S (up2 S.1 22 2 (-1), S.2) := Rk.wr (by omega)
  refine lp 40 (fun F i (T : MS) => r_findBroken_9 F (nI w) (nI i) T) (fun i T => Rk S T ∧ T.1 22 2 = -1 ∧ brk V w = if w = 0 then none else ffi (brF V w) (40 - i) i) (fun r => ∃ S', r = some (bI ((brk V w).isSome = true), S') ∧ Rk S S' ∧ (∀ p, brk V w = some p → S'.1 22 0 = nI p.1 ∧ S'.1 22 1 = nI p.2.1 ∧ S'.1 22 2 = p.2.2)) (fun F T J => ?_) (fun F i T hi J => ?_) 40 0 FU _ FU_gt rfl ⟨rk0, (show up2 S.1 22 2 (-1) 22 2 = -1 from up2_s), rfl⟩
  · obtain ⟨j1, j2, j3⟩ := J
    have j : brk V w = none := by
      rw [j3]
      split <;> rfl
    refine ⟨T, ?_, j1, fun p hp => by rw [j] at hp; cases hp⟩
    show r_findBroken_9 (F + 1) (nI w) (nI 40) T = _
    rw [j, r_findBroken_9.eq_2, if_pos (by decide)]
    rfl
  · obtain ⟨j1, j2, j3⟩ := J
    rw [ffi_at hi] at j3
    show (∃ a', _ ∧ r_findBroken_9 (F + 1) (nI w) (nI i) T = r_findBroken_9 F (nI w) (nI (i + 1)) a') ∨ ∃ σ', r_findBroken_9 (F + 1) (nI w) (nI i) T = _ ∧ _
    rw [r_findBroken_9.eq_2, e40, if_neg (nI_ge hi (by decide))]
    -- the row of one thing
    have row := lp 40 (fun F' b (U : MS) => r_findBroken_17 (r_findBroken_9 F) F' (nI w) (nI i) (nI b) U) (fun b U => Rk S U ∧ U.1 22 2 = -1 ∧ (hs V i → w ≠ 0 → frm V w i = ffi (frF V w i) (40 - b) b)) (fun r => (∃ U, Rk S U ∧ U.1 22 2 = -1 ∧ r = r_findBroken_9 F (nI w) (nI (i + 1)) U ∧ (hs V i → w ≠ 0 → frm V w i = none)) ∨ (hs V i ∧ w ≠ 0 ∧ ∃ U p, frm V w i = some p ∧ Rk S U ∧ r = some (1, U) ∧ U.1 22 0 = nI i ∧ U.1 22 1 = nI p.1 ∧ U.1 22 2 = p.2)) (fun F' U J => ?_) (fun F' b U hb J => ?_) 40 0 FU T FU_gt rfl ⟨j1, j2, fun _ _ => rfl⟩
    · rw [show (0 : Int32) = nI 0 from rfl]
      rcases row with ⟨U, u1, u2, u3, u4⟩ | ⟨u1, u2, U, p, u3, u4, u5, u6, u7, u8⟩
      · rw [u3]
        refine Or.inl ⟨U, ⟨u1, u2, ?_⟩, rfl⟩
        by_cases w0 : w = 0
        · rw [j3, if_pos w0, if_pos w0]
        · rw [if_neg w0] at j3 ⊢
          rw [j3]
          by_cases q : hs V i
          · have : brF V w i = none := by
              show (if hs V i then _ else _) = _
              rw [if_pos q, u4 q w0]; rfl
            rw [this]
          · have : brF V w i = none := if_neg q
            rw [this]
      · have : brF V w i = some (i, p.1, p.2) := by
          show (if hs V i then _ else _) = _
          rw [if_pos u1, u3]; rfl
        rw [if_neg u2, this] at j3
        rw [u5, j3]
        refine Or.inr ⟨U, rfl, u4, fun r hr => ?_⟩
        cases hr
        exact ⟨u6, u7, u8⟩
    · obtain ⟨k1, k2, k3⟩ := J
      refine Or.inl ⟨U, k1, k2, ?_, fun a b => k3 a b⟩
      show r_findBroken_17 (r_findBroken_9 F) (F' + 1) (nI w) (nI i) (nI 40) U = _
      rw [r_findBroken_17.eq_2, if_pos (by decide), nI_1]
    · obtain ⟨k1, k2, k3⟩ := J
      have hU := h.rk k1
      show (∃ a', _ ∧ r_findBroken_17 (r_findBroken_9 F) (F' + 1) (nI w) (nI i) (nI b) U = r_findBroken_17 (r_findBroken_9 F) F' (nI w) (nI i) (nI (b + 1)) a') ∨ ((∃ U', _ ∧ _ ∧ r_findBroken_17 (r_findBroken_9 F) (F' + 1) (nI w) (nI i) (nI b) U = _ ∧ _) ∨ (_ ∧ _ ∧ ∃ U' p, _ ∧ _ ∧ r_findBroken_17 (r_findBroken_9 F) (F' + 1) (nI w) (nI i) (nI b) U = _ ∧ _))
      rw [r_findBroken_17.eq_2, e40, if_neg (nI_ge hb (by decide)), hU.r (show i < 2 ^ 31 by omega), bind_s, ite_bI, hU.r (show b < 2 ^ 31 by omega), bind_s, ite_bI]
      have skip : (hs V i → w ≠ 0 → frF V w i b = none) → (∃ a', (Rk S a' ∧ a'.1 22 2 = -1 ∧ (hs V i → w ≠ 0 → frm V w i = ffi (frF V w i) (40 - (b + 1)) (b + 1))) ∧ r_findBroken_131 (r_findBroken_9 F) (r_findBroken_17 (r_findBroken_9 F) F') (nI w) (nI i) (nI b) U = r_findBroken_17 (r_findBroken_9 F) F' (nI w) (nI i) (nI (b + 1)) a') := fun e => by
        unfold r_findBroken_131
        rw [nI_1]
        refine ⟨U, ⟨k1, k2, fun x y => ?_⟩, rfl⟩
        have := k3 x y
        rw [ffi_at hb, e x y] at this
        exact this
      by_cases q1 : hs V i
      · rw [if_pos q1]
        by_cases q2 : hs V b
        · rw [if_pos q2]
          unfold r_findBroken_49 r_findBroken_58
          by_cases z : i = b
          · rw [if_pos (by rw [z])]
            by_cases w0 : w = 0
            · subst w0
              have z0 : nI 0 = 0 := rfl
              have w00 : wr U 22 0 (nI i) = some (up2 U.1 22 0 (nI i), U.2) := wr_ok (k := 0) (show 0 < m_len 22 by rw [len22]; omega) (show 0 < 2 ^ 31 by omega)
              simp only [if_pos z0, if_pos (rfl : (1 : Int32) = 1), w00, bind_s]
              unfold r_findBroken_85 r_findBroken_131
              have w11 : wr (up2 U.1 22 0 (nI i), U.2) 22 1 (-1) = some (up2 (up2 U.1 22 0 (nI i)) 22 1 (-1), U.2) := wr_ok (k := 1) (show 1 < m_len 22 by rw [len22]; omega) (show 1 < 2 ^ 31 by omega)
              simp only [w11, bind_s, if_pos z0]
              generalize hU2 : ((up2 (up2 U.1 22 0 (nI i)) 22 1 (-1), U.2) : MS) = U2
              have rk2 : Rk S U2 := by rw [← hU2]; exact (k1.trans (Rk.wr (by omega))).trans (Rk.wr (by omega))
              obtain ⟨U3, g1, g2⟩ := (h.rk rk2).fa q1 q1
              have g1 : r_farOf U2 (nI i) (nI i) = some (nI (far V i i), U3) := g1
              rw [far_self h.2.2] at g1
              have u22 : U2.1 22 2 = -1 := by rw [← hU2, ← k2]; show up2 (up2 U.1 22 0 (nI i)) 22 1 (-1) 22 2 = _; rw [up2_i (by omega), up2_i (by omega)]
              refine Or.inl ⟨U3, ⟨rk2.trans g2.rk, by rw [g2.r (by decide) (by decide)]; exact u22, fun _ y => absurd rfl y⟩, ?_⟩
              rw [g1, bd2_s, if_pos (show nI 0 = 0 from rfl), nI_1]
              exact if_pos trivial
            · rw [if_neg (nI_ne0 (by omega) (by omega)), if_neg (by decide)]
              exact Or.inl (skip (fun _ _ => if_neg (fun y => y.2 z.symm)))
          · have ib40 : i < 2 ^ 31 ∧ b < 2 ^ 31 := ⟨by omega, by omega⟩
            rw [if_neg (fun y => z ((nI_eq ib40.1 ib40.2).mp y))]
            by_cases w0 : w = 0
            · subst w0
              have z0 : nI 0 = 0 := rfl
              have z1 : ¬ (0 : Int32) = 1 := by decide
              simp only [if_pos z0, if_neg z1]
              exact Or.inl (skip (fun _ y => absurd rfl y))
            · rw [if_neg (nI_ne0 (by omega) (by omega)), if_pos rfl, show (0 : Int32) = nI 0 from rfl, wr_ok (show 0 < m_len 22 by rw [len22]; omega) (by omega), bind_s, if_neg (fun y => w0 ((nI_eq (by omega) (by omega)).mp y))]
              have rk2 : Rk S (up2 U.1 22 0 (nI i), U.2) := k1.trans (Rk.wr (by omega))
              obtain ⟨U3, g1, g2⟩ := r_brk85 (k9 := r_findBroken_9 F) (k17 := r_findBroken_17 (r_findBroken_9 F) F') (h.rk rk2) hw w0 q1 q2 (by rw [← k2]; show up2 U.1 22 0 (nI i) 22 2 = _; exact up2_i (by omega))
              have e : frF V w i b = (tbk V w i b).map (fun c => (b, c)) := if_pos ⟨q2, fun y => z y.symm⟩
              have k3 := k3 q1 w0
              rw [ffi_at hb, e] at k3
              cases t : tbk V w i b with
              | none =>
                rw [t] at g2 k3
                exact Or.inl ⟨U3, ⟨rk2.trans g1, g2.2, fun _ _ => k3⟩, g2.1⟩
              | some c =>
                rw [t] at g2 k3
                refine Or.inr (Or.inr ⟨q1, w0, U3, (b, c), k3, rk2.trans g1, g2.1, ?_, g2.2.2.1, g2.2.2.2⟩)
                rw [g2.2.1]; show up2 U.1 22 0 (nI i) 22 0 = _; exact up2_s
        · rw [if_neg q2]
          exact Or.inl (skip (fun _ _ => if_neg (fun y => q2 y.1)))
      · rw [if_neg q1]
        exact Or.inl (skip (fun y => absurd y q1))
end BRK
