/-- what the reference keeps between calls stays -/
def Rk (S S' : MS) : Prop := (∀ j, j = 0 ∨ j = 1 ∨ j = 18 ∨ j = 26 ∨ j = 27 ∨ j = 29 → S'.1 j = S.1 j) ∧ (∀ k, k = 27 ∨ k = 28 ∨ k = 29 ∨ k = 32 ∨ k = 33 ∨ k = 44 ∨ k = 45 ∨ k = 52 → S'.2 k = S.2 k)
theorem Rk.rfl {S : MS} : Rk S S := ⟨fun _ _ => Eq.refl _, fun _ _ => Eq.refl _⟩
theorem Rk.trans {S S1 S2 : MS} (h : Rk S S1) (g : Rk S1 S2) : Rk S S2 := ⟨fun j hj => (g.1 j hj).trans (h.1 j hj), fun k hk => (g.2 k hk).trans (h.2 k hk)⟩
theorem S2.rk {S S' : MS} (h : S2 S S') : Rk S S' := ⟨fun j hj => h.r (by omega) (by omega), fun k _ => by rw [h.f]⟩
theorem Rk.wr {S : MS} {j i : Nat} {v : Int32} (h : ¬ (j = 0 ∨ j = 1 ∨ j = 18 ∨ j = 26 ∨ j = 27 ∨ j = 29)) : Rk S (up2 S.1 j i v, S.2) := ⟨fun a ha => by
  funext b
  exact up2_j (fun q => h (q ▸ ha)), fun _ _ => Eq.refl _⟩
theorem Rk.pf {S : MS} {k : Nat} {v : Int32} (h : ¬ (k = 27 ∨ k = 28 ∨ k = 29 ∨ k = 32 ∨ k = 33 ∨ k = 44 ∨ k = 45 ∨ k = 52)) : Rk S (pf S k v) := ⟨fun _ _ => Eq.refl _, fun a ha => upd_n (fun q => h (q ▸ ha))⟩
theorem Bv.rk {σ : Hp} {S S' : MS} {V : Vt} {π : Nat → Nat} (h : Bv σ S V π) (g : Rk S S') : Bv σ S' V π := by
  refine ⟨h.1, ?_, h.2.2⟩
  rw [g.1 0 (Or.inl rfl)]
  exact h.2.1
/-- the surveys' own cells alone are written -/
def Sv (σ σ' : Hp) : Prop := (σ'.kd = σ.kd ∧ σ'.ln = σ.ln ∧ σ'.fr = σ.fr ∧ σ'.rr = σ.rr ∧ σ'.nx = σ.nx ∧ σ'.us = σ.us) ∧ (∀ i a, a ≠ 33 → σ'.fi i a = σ.fi i a) ∧ (∀ a, a < 34 ∨ 37 < a → σ'.ar a = σ.ar a)
theorem Sv.rfl {σ : Hp} : Sv σ σ := ⟨⟨Eq.refl _, Eq.refl _, Eq.refl _, Eq.refl _, Eq.refl _, Eq.refl _⟩, fun _ _ _ => Eq.refl _, fun _ _ => Eq.refl _⟩
theorem Sv.trans {σ σ1 σ2 : Hp} (h : Sv σ σ1) (g : Sv σ1 σ2) : Sv σ σ2 := by
  obtain ⟨⟨a1, a2, a3, a4, a5, a6⟩, a7, a8⟩ := h
  obtain ⟨⟨b1, b2, b3, b4, b5, b6⟩, b7, b8⟩ := g
  exact ⟨⟨b1.trans a1, b2.trans a2, b3.trans a3, b4.trans a4, b5.trans a5, b6.trans a6⟩, fun i a h => (b7 i a h).trans (a7 i a h), fun a h => (b8 a h).trans (a8 a h)⟩
theorem Sv.saw {σ : Hp} {a : Nat} {f : Nat → Int32} (h : 34 ≤ a ∧ a ≤ 37) : Sv σ (saw σ a f) := ⟨⟨Eq.refl _, Eq.refl _, Eq.refl _, Eq.refl _, Eq.refl _, Eq.refl _⟩, fun _ _ _ => Eq.refl _, fun b hb => ar_saw_ne (by omega)⟩
theorem Sv.sfi {σ : Hp} {i : Nat} {v : Int32} : Sv σ (sfi σ i 33 v) := ⟨⟨Eq.refl _, Eq.refl _, Eq.refl _, Eq.refl _, Eq.refl _, Eq.refl _⟩, fun j a h => by rw [fi_sfi, if_neg (fun q => h q.2)], fun _ _ => Eq.refl _⟩
theorem Cv.sv {σ σ' : Hp} {V : Vt} (c : Cv σ V) (s : Sv σ σ') : Cv σ' V := by
  obtain ⟨⟨s1, s2, s3, -⟩, s4, s5⟩ := s
  obtain ⟨c1, c2, c3, c4, c5⟩ := c
  refine ⟨by rw [s1, s2]; exact c1, by rw [s3]; exact c2, fun t ht => by rw [s5 4 (by decide)]; exact c3 t ht, fun a b ha hb => by rw [s5 20 (by decide)]; exact c4 a b ha hb, by rw [s4 701 3 (by decide)]; exact c5⟩
theorem Bv.sv {σ σ' : Hp} {S : MS} {V : Vt} {π : Nat → Nat} (h : Bv σ S V π) (s : Sv σ σ') : Bv σ' S V π := ⟨h.1.sv s, h.2⟩
theorem ffi_at {α : Type} {f : Nat → Option α} {N i : Nat} (h : i < N) : ffi f (N - i) i = match f i with | some a => some a | none => ffi f (N - (i + 1)) (i + 1) := by
  have : N - i = (N - (i + 1)) + 1 := by omega
  rw [this]
  rfl
section B
variable {σ : Hp} {S : MS} {V : Vt} {π : Nat → Nat}
def thd (V : Vt) (a b : Nat) : Option Nat := ffi (fun c => if hs V c ∧ c ≠ a ∧ c ≠ b ∧ far V a b + far V b c < far V a c then some c else none) 40 0
theorem c_third (h : Bv σ S V π) {a b : Nat} (ha : hs V a) (hb : hs V b) : kX8_breaksBetween_74 FU 33 (nI a) (nI b) (nI (far V a b)) 0 σ = match thd V a b with | none => some (0, σ) | some c => some (1, sfi σ 804 33 (nI c)) := by
  have e40 : (40 : Int32) = nI 40 := rfl
  have a40 := ha.1
  have b40 := hb.1
  refine lp 40 (fun F i (_ : Unit) => kX8_breaksBetween_74 F 33 (nI a) (nI b) (nI (far V a b)) (nI i) σ) (fun i _ => thd V a b = ffi (fun c => if hs V c ∧ c ≠ a ∧ c ≠ b ∧ far V a b + far V b c < far V a c then some c else none) (40 - i) i) (fun r => r = match thd V a b with | none => some (0, σ) | some c => some (1, sfi σ 804 33 (nI c))) (fun F _ j => ?_) (fun F i _ hi j => ?_) 40 0 FU () FU_gt rfl rfl
  · have j : thd V a b = none := j
    rw [j, kX8_breaksBetween_74.eq_2, if_pos (by decide)]
    rfl
  · rw [ffi_at hi] at j
    show (∃ a', _ ∧ kX8_breaksBetween_74 (F + 1) 33 (nI a) (nI b) (nI (far V a b)) (nI i) σ = _) ∨ kX8_breaksBetween_74 (F + 1) 33 (nI a) (nI b) (nI (far V a b)) (nI i) σ = _
    rw [kX8_breaksBetween_74.eq_2, e40, if_neg (nI_ge hi (by decide))]
    simp only [h.1.s, h.1.k3, h.1.f, h.1.k19, bind_s, h.c (show i < 2 ^ 31 by omega), ite_bI]
    unfold kX8_breaksBetween_139
    have b1 := far_le h.2.2 a i
    have b2 := far_le h.2.2 b i
    have b3 := far_le h.2.2 a b
    by_cases q1 : i = a
    · rw [if_pos (by rw [q1]), nI_1]
      rw [if_neg (fun y => y.2.1 q1)] at j
      exact Or.inl ⟨(), j, rfl⟩
    · rw [if_neg (fun y => q1 ((nI_eq (by omega) (by omega)).mp y))]
      by_cases q2 : i = b
      · rw [if_pos (by rw [q2]), nI_1]
        rw [if_neg (fun y => y.2.2.1 q2)] at j
        exact Or.inl ⟨(), j, rfl⟩
      · rw [if_neg (fun y => q2 ((nI_eq (by omega) (by omega)).mp y))]
        by_cases q3 : hs V i
        · rw [if_pos q3, h.1.of ha q3, bind_s, h.1.of hb q3, bind_s, nI_add]
          by_cases q4 : far V a b + far V b i < far V a i
          · have q5 : hs V i ∧ i ≠ a ∧ i ≠ b ∧ far V a b + far V b i < far V a i := ⟨q3, q1, q2, q4⟩
            rw [if_neg (nI_ge q4 (by omega)), pfi_ok h.1.1.1, bind_s]
            rw [if_pos q5] at j
            rw [j]
            exact Or.inr rfl
          · rw [if_pos (nI_le (by omega) (by omega)), nI_1]
            rw [if_neg (fun y => q4 y.2.2.2)] at j
            exact Or.inl ⟨(), j, rfl⟩
        · rw [if_neg q3, nI_1]
          rw [if_neg (fun y => q3 y.1)] at j
          exact Or.inl ⟨(), j, rfl⟩
theorem r_third (h : Bv σ S V π) {a b : Nat} (ha : hs V a) (hb : hs V b) : ∃ S', r_findThird S (nI a) (nI b) = some (bI ((thd V a b).isSome = true), S') ∧ Rk S S' ∧ (∀ k, k ≠ 2 → S'.1 22 k = S.1 22 k) ∧ S'.1 22 2 = match thd V a b with | none => S.1 22 2 | some c => nI c := by
  have e40 : (40 : Int32) = nI 40 := rfl
  have a40 := ha.1
  have b40 := hb.1
  unfold r_findThird
  obtain ⟨S0, g1, g2⟩ := h.fa ha hb
  rw [g1, bd2_s]
  have := lp 40 (fun F i (T : MS) => r_findThird_10 F (nI a) (nI b) (nI (far V a b)) (nI i) T) (fun i T => thd V a b = ffi (fun c => if hs V c ∧ c ≠ a ∧ c ≠ b ∧ far V a b + far V b c < far V a c then some c else none) (40 - i) i ∧ S2 S T) (fun r => ∃ S', r = some (bI ((thd V a b).isSome = true), S') ∧ Rk S S' ∧ (∀ k, k ≠ 2 → S'.1 22 k = S.1 22 k) ∧ S'.1 22 2 = match thd V a b with | none => S.1 22 2 | some c => nI c) (fun F T j => ?_) (fun F i T hi j => ?_) 40 0 FU S0 FU_gt rfl ⟨rfl, g2⟩
  · exact this
  · obtain ⟨j1, j2⟩ := j
    have j1 : thd V a b = none := j1
    refine ⟨T, ?_, j2.rk, fun k _ => by rw [j2.r (by decide) (by decide)], by rw [j1, j2.r (by decide) (by decide)]⟩
    rw [j1, r_findThird_10.eq_2, if_pos (by decide)]
    rfl
  · obtain ⟨j, j2⟩ := j
    rw [ffi_at hi] at j
    have hbT := h.s2 j2
    show (∃ a', _ ∧ r_findThird_10 (F + 1) (nI a) (nI b) (nI (far V a b)) (nI i) T = _) ∨ (∃ S', r_findThird_10 (F + 1) (nI a) (nI b) (nI (far V a b)) (nI i) T = _ ∧ _)
    rw [r_findThird_10.eq_2, e40, if_neg (nI_ge hi (by decide)), hbT.r (show i < 2 ^ 31 by omega), bind_s, ite_bI]
    unfold r_findThird_70
    have b1 := far_le h.2.2 a i
    have b2 := far_le h.2.2 b i
    have b3 := far_le h.2.2 a b
    by_cases q3 : hs V i
    · rw [if_pos q3]
      by_cases q1 : i = a
      · rw [if_pos (by rw [q1]), nI_1]
        rw [if_neg (fun y => y.2.1 q1)] at j
        exact Or.inl ⟨T, ⟨j, j2⟩, rfl⟩
      · rw [if_neg (fun y => q1 ((nI_eq (by omega) (by omega)).mp y))]
        by_cases q2 : i = b
        · rw [if_pos (by rw [q2]), nI_1]
          rw [if_neg (fun y => y.2.2.1 q2)] at j
          exact Or.inl ⟨T, ⟨j, j2⟩, rfl⟩
        · rw [if_neg (fun y => q2 ((nI_eq (by omega) (by omega)).mp y))]
          obtain ⟨T1, k1, k2⟩ := hbT.fa ha q3
          obtain ⟨T3, k3, k4⟩ := (hbT.s2 k2).fa hb q3
          rw [k1, bd2_s, k3, bd2_s, nI_add]
          have j3 := (j2.trans k2).trans k4
          by_cases q4 : far V a b + far V b i < far V a i
          · have q5 : hs V i ∧ i ≠ a ∧ i ≠ b ∧ far V a b + far V b i < far V a i := ⟨q3, q1, q2, q4⟩
            rw [if_pos (nI_lt q4 (by omega)), show (2 : Int32) = nI 2 from rfl, wr_ok (show 2 < m_len 22 from by decide) (by decide), bind_s]
            rw [if_pos q5] at j
            have j : thd V a b = some i := j
            rw [j]
            refine Or.inr ⟨_, rfl, j3.rk.trans (Rk.wr (by decide)), fun k hk => ?_, ?_⟩
            · show up2 T3.1 22 2 (nI i) 22 k = _
              rw [up2_i hk, j3.r (by decide) (by decide)]
            · show up2 T3.1 22 2 (nI i) 22 2 = _
              rw [up2_s]
          · rw [if_neg (nI_nlt (by omega) (by omega)), nI_1]
            rw [if_neg (fun y => q4 y.2.2.2)] at j
            exact Or.inl ⟨T3, ⟨j, j3⟩, rfl⟩
    · rw [if_neg q3, nI_1]
      rw [if_neg (fun y => q3 y.1)] at j
      exact Or.inl ⟨T, ⟨j, j2⟩, rfl⟩
/-- a break between two: what stands as the third -/
def tbk (V : Vt) (w a b : Nat) : Option Int32 := if w = 1 then (if far V a b = 0 then some (-1) else none) else if w = 2 then (if a < b ∧ far V a b ≠ far V b a then some (-1) else none) else (thd V a b).map nI
theorem c_btw (h : Bv σ S V π) {w a b : Nat} (hw : w < 4) (ha : hs V a) (hb : hs V b) (h4 : σ.fi 804 33 = -1) : ∃ σ', kX8_breaksBetween σ 33 (nI w) (nI a) (nI b) = some (bI ((tbk V w a b).isSome = true), σ') ∧ Sv σ σ' ∧ (tbk V w a b = none → σ' = σ) ∧ (∀ c, tbk V w a b = some c → σ'.fi 804 33 = c) := by
  have a40 := ha.1
  have b40 := hb.1
  have b3 := far_le h.2.2 a b
  have b4 := far_le h.2.2 b a
  unfold kX8_breaksBetween tbk
  simp only [h.1.f, h.1.k19, bind_s, h.1.of ha hb, h.1.of hb ha]
  by_cases w1 : w = 1
  · subst w1
    rw [if_pos (by decide), if_pos rfl]
    by_cases q : far V a b = 0
    · rw [if_pos (by rw [q]; rfl), if_pos q]
      exact ⟨σ, rfl, Sv.rfl, fun _ => rfl, fun c hc => by cases hc; exact h4⟩
    · rw [if_neg (nI_ne0 (by omega) (by omega)), if_neg q]
      exact ⟨σ, rfl, Sv.rfl, fun _ => rfl, fun c hc => by cases hc⟩
  · rw [if_neg (show ¬ nI w = 1 from fun y => w1 ((nI_eq (b := 1) (by omega) (by omega)).mp y)), if_neg w1]
    by_cases w2 : w = 2
    · subst w2
      rw [if_pos (by decide), if_pos rfl]
      by_cases q : a < b
      · rw [if_neg (nI_ge q (by omega))]
        by_cases z : far V a b = far V b a
        · rw [if_pos (by rw [z]), if_neg (fun y : a < b ∧ far V a b ≠ far V b a => y.2 z)]
          exact ⟨σ, rfl, Sv.rfl, fun _ => rfl, fun c hc => by cases hc⟩
        · have y : a < b ∧ far V a b ≠ far V b a := ⟨q, z⟩
          rw [if_neg (fun y => z ((nI_eq (by omega) (by omega)).mp y)), if_pos y]
          exact ⟨σ, rfl, Sv.rfl, fun _ => rfl, fun c hc => by cases hc; exact h4⟩
      · rw [if_pos (nI_le (by omega) (by omega)), if_neg (fun y : a < b ∧ far V a b ≠ far V b a => q y.1)]
        exact ⟨σ, rfl, Sv.rfl, fun _ => rfl, fun c hc => by cases hc⟩
    · rw [if_neg (show ¬ nI w = 2 from fun y => w2 ((nI_eq (b := 2) (by omega) (by omega)).mp y)), if_neg w2, c_third h ha hb]
      cases z : thd V a b with
      | none => exact ⟨σ, rfl, Sv.rfl, fun _ => rfl, fun c hc => by cases hc⟩
      | some c => exact ⟨_, rfl, Sv.sfi, fun hc => (by cases hc), fun d hd => (by cases hd; rw [fi_sfi, if_pos ⟨rfl, rfl⟩])⟩
theorem r_btw (h : Bv σ S V π) {w a b : Nat} (hw : w = 1 ∨ w = 2) (ha : hs V a) (hb : hs V b) : ∃ S', r_isBroken S (nI w) (nI a) (nI b) = some (bI ((tbk V w a b).isSome = true), S') ∧ S2 S S' ∧ (∀ c, tbk V w a b = some c → c = -1) := by
  have a40 := ha.1
  have b40 := hb.1
  have b3 := far_le h.2.2 a b
  have b4 := far_le h.2.2 b a
  unfold r_isBroken tbk
  obtain ⟨T1, g1, g2⟩ := h.fa ha hb
  obtain ⟨T2, g3, g4⟩ := (h.s2 g2).fa hb ha
  rcases hw with rfl | rfl
  · rw [if_pos (by decide), if_pos rfl, g1, bd2_s]
    by_cases q : far V a b = 0
    · rw [if_pos (by rw [q]; rfl), if_pos q]
      exact ⟨T1, rfl, g2, fun c hc => by cases hc; rfl⟩
    · rw [if_neg (nI_ne0 (by omega) (by omega)), if_neg q]
      exact ⟨T1, rfl, g2, fun c hc => by cases hc⟩
  · rw [if_neg (show ¬ nI 2 = 1 by decide), if_pos (show nI 2 = 2 by decide), if_neg (show ¬ (2 : Nat) = 1 by decide), if_pos (show (2 : Nat) = 2 from rfl)]
    by_cases q : a < b
    · rw [if_neg (nI_ge q (by omega)), g1, bd2_s, g3, bd2_s]
      by_cases z : far V a b = far V b a
      · rw [if_pos (by rw [z]), if_neg (fun y : a < b ∧ far V a b ≠ far V b a => y.2 z)]
        exact ⟨T2, rfl, g2.trans g4, fun c hc => by cases hc⟩
      · have y : a < b ∧ far V a b ≠ far V b a := ⟨q, z⟩
        rw [if_neg (fun y => z ((nI_eq (by omega) (by omega)).mp y)), if_pos y]
        exact ⟨T2, rfl, g2.trans g4, fun c hc => by cases hc; rfl⟩
    · rw [if_pos (nI_le (by omega) (by omega)), if_neg (fun y : a < b ∧ far V a b ≠ far V b a => q y.1)]
      exact ⟨S, rfl, S2.rfl, fun c hc => by cases hc⟩
end B
