section JWORD
variable {σ σ' σ1 σ2 : Hp} {S S' S1 : MS} {n : Nat} {f : Nat → Int32}
/-- the number of a letter -/
def ltn (x : Int32) : Nat := x.toNatClampNeg - 96
theorem ltn_or {x : Int32} (h : isLt x = true) : 1 ≤ ltn x ∧ ltn x ≤ 26 ∧ x = nI (96 + ltn x) := by
  have h : 97 ≤ x ∧ x ≤ 122 := of_decide_eq_true h
  obtain ⟨k, k1, k2, rfl⟩ := rng (a := 97) (b := 122) (by omega) (by omega) h
  have e : ltn (nI k) = k - 96 := by
    unfold ltn
    rw [nI_clamp (by omega)]
  rw [e, show 96 + (k - 96) = k by omega]
  exact ⟨by omega, by omega, rfl⟩
/-- all letters up to h -/
def gd8 (f : Nat → Int32) : Nat → Nat → Bool
  | 0, _ => true
  | m + 1, p => decide (ltn (f p) ≤ 8) && gd8 f m (p + 1)
/-- the word's number -/
def wv (f : Nat → Int32) : Nat → Nat → Nat → Nat
  | 0, _, a => a
  | m + 1, p, a => wv f m (p + 1) (9 * a + ltn (f p))
/-- the number of k letters -/
def Pww (k a : Nat) : Prop := a < 9 ^ k ∧ (lo k a).isSome = true ∧ (0 < k → 0 < a)
theorem Pww.z : Pww 0 0 := ⟨by decide, rfl, fun h => absurd h (by omega)⟩
theorem Pww.s {k a d : Nat} (h : Pww k a) (d1 : 1 ≤ d) (d8 : d ≤ 8) : Pww (k + 1) (9 * a + d) := by
  obtain ⟨h1, h2, h3⟩ := h
  refine ⟨?_, ?_, fun _ => by omega⟩
  · have : 9 ^ (k + 1) = 9 ^ k * 9 := rfl
    omega
  · unfold lo
    rw [if_neg (by omega), if_neg (by omega), show (9 * a + d) / 9 = a by omega, Option.isSome_map]
    exact h2
theorem lo_up : ∀ (k w : Nat), w < 9 ^ k → (lo k w).isSome = true → (lo (k + 1) w).isSome = true
  | 0, w, h, _ => by
    have : w = 0 := by omega
    rw [this]; rfl
  | k + 1, w, h, e => by
    unfold lo at e ⊢
    by_cases q : w = 0
    · rw [if_pos q]; rfl
    · rw [if_neg q] at e ⊢
      by_cases r : w % 9 = 0
      · rw [if_pos r] at e; cases e
      · rw [if_neg r, Option.isSome_map] at e ⊢
        have : 9 ^ (k + 1) = 9 ^ k * 9 := rfl
        exact lo_up k (w / 9) (by omega) e
theorem lo_6 : ∀ (m k w : Nat), k + m = 6 → w < 9 ^ k → (lo k w).isSome = true → w < 9 ^ 6 ∧ (lo 6 w).isSome = true
  | 0, k, w, e, h, s => by
    have : k = 6 := by omega
    subst this
    exact ⟨h, s⟩
  | m + 1, k, w, e, h, s => lo_6 m (k + 1) w (by omega) (by have : 9 ^ (k + 1) = 9 ^ k * 9 := rfl
                                                            omega) (lo_up k w h s)
theorem Pww.w {k a : Nat} (h : Pww k a) (k1 : 0 < k) (k6 : k ≤ 6) : isW a := by
  obtain ⟨x, y⟩ := lo_6 (6 - k) k a (by omega) h.1 h.2.1
  have := h.2.2 k1
  have e : (9 : Nat) ^ 6 = 531441 := by decide
  unfold isW letters
  rw [if_neg (by omega)]
  exact y
theorem Pww.lt {k a : Nat} (h : Pww k a) (k6 : k ≤ 6) : a < 531441 := by
  have e : (9 : Nat) ^ 6 = 531441 := by decide
  have := Nat.pow_le_pow_right (show 0 < 9 by decide) k6
  have := h.1
  omega
/-- one letter more, as either side reckons -/
theorem wstep_c {a d : Nat} (d1 : 1 ≤ d) : (((nI a * 9) + nI (96 + d)) - 97) + 1 = nI (9 * a + d) := by
  rw [show (9 : Int32) = nI 9 from rfl, show (97 : Int32) = nI 97 from rfl, pk_mul, nI_add, pk_sub (by omega), nI_1, show a * 9 + (96 + d) - 97 + 1 = 9 * a + d by omega]
theorem wstep_d {d : Nat} (d1 : 1 ≤ d) : (nI (96 + d) - 97) + 1 = nI d := by
  rw [show (97 : Int32) = nI 97 from rfl, pk_sub (by omega), nI_1, show 96 + d - 97 + 1 = d by omega]
theorem wstep_r {a d : Nat} : (9 * nI a) + nI d = nI (9 * a + d) := by
  rw [show (9 : Int32) = nI 9 from rfl, pk_mul, nI_add]
theorem c_word49z (h : Kr f n σ) {t q : Nat} (e : σ.fi 9 53 = nI t) (e8 : σ.fi 8 53 = nI q) {F : Nat} {a x : Int32} : kX0_readWord_49 (F + 1) 53 0 a x σ = some (a, sfi σ 6 53 (nI q)) := by
  have r : kX0_readWord_101 53 0 a σ = some (a, sfi σ 6 53 (nI q)) := by
    unfold kX0_readWord_101
    rw [if_pos rfl, gfi_ok h.1.1, bind_s, e8, pfi_ok h.1.1, bind_s]
  unfold kX0_readWord_49
  rw [gfi_ok h.1.1, bind_s, if_pos rfl, r]
  split <;> rfl
theorem c_word49 {t q : Nat} (ht : t ≤ n) : ∀ (m F p a : Nat), m + 1 < F → p + m = t → (∀ i, p ≤ i → i < t → isLt (f i) = true) → Kr f n σ → σ.fi 9 53 = nI t → σ.fi 8 53 = nI q → ∃ v, kX0_readWord_49 F 53 1 (nI a) (nI p) σ = some (v, sfi σ 6 53 (if gd8 f m p = true then -1 else nI q)) ∧ (gd8 f m p = true → v = nI (wv f m p a))
  | m, 0, _, _, h, _, _, _, _, _ => absurd h (Nat.not_lt_zero _)
  | 0, F + 1, p, a, _, hp, hl, h, e, e8 => by
    have := h.2.1
    unfold kX0_readWord_49 kX0_readWord_101 gd8 wv
    rw [gfi_ok h.1.1, bind_s, e, if_pos (nI_le (by omega) (by omega)), if_neg (show ¬ (1 : Int32) = 0 by decide), pfi_ok h.1.1, bind_s, if_pos rfl]
    exact ⟨_, rfl, fun _ => rfl⟩
  | m + 1, F + 1, p, a, hF, hp, hl, h, e, e8 => by
    have := h.2.1
    obtain ⟨l1, l2, l3⟩ := ltn_or (hl p (Nat.le_refl _) (by omega))
    unfold kX0_readWord_49 kX0_readWord_94 gd8 wv
    simp only [gfi_ok h.1.1, bind_s, e, gfr_ok h.1.1, h.1.2.2.2, ald_ok h.1.2.1 (show p < σ.ln 54 by rw [h.1.2.2.1]; omega) (show p < 2 ^ 31 by omega), h.2.2.2 p (by omega), nI_1]
    rw [if_neg (nI_ge (show p < t by omega) (by omega)), if_neg (show ¬ (1 : Int32) = 0 by decide)]
    by_cases z : ltn (f p) ≤ 8
    · rw [if_neg (by rw [l3, show (104 : Int32) = nI 104 from rfl, nI_ltI (by omega) (by omega)]; omega), decide_eq_true z, Bool.true_and]
      have s : (((nI a * 9) + f p) - 97) + 1 = nI (9 * a + ltn (f p)) := by
        conv => lhs; rw [l3]
        exact wstep_c l1
      rw [s]
      exact c_word49 ht m F (p + 1) _ (by omega) (by omega) (fun i h1 h2 => hl i (by omega) h2) h e e8
    · rw [if_pos (by rw [l3, show (104 : Int32) = nI 104 from rfl, nI_ltI (by omega) (by omega)]; omega), decide_eq_false z, Bool.false_and, if_neg (by decide)]
      obtain ⟨F, rfl⟩ : ∃ G, F = G + 1 := ⟨F - 1, by omega⟩
      rw [c_word49z h e e8]
      exact ⟨_, rfl, fun w => absurd w (by decide)⟩
/-- the class reads a word -/
theorem c_readWord (h : Kr f n σ) (e6 : σ.fi 6 53 = -1) {p q t : Nat} (hp : p ≤ n) (e : σ.fi 9 53 = nI p) (hq : q = rn f n isBl (n - p) p) (ht : t = rn f n isLt (n - q) q) : ∃ v σ1, kX0_readWord σ 53 = some (v, sfi σ1 6 53 (if q < t ∧ t ≤ q + 6 ∧ gd8 f (t - q) q = true then -1 else nI q)) ∧ D789 σ σ1 ∧ (q < t ∧ t ≤ q + 6 ∧ gd8 f (t - q) q = true → v = nI (wv f (t - q) q 0) ∧ σ1.fi 9 53 = nI t) := by
  have n3 := h.2.1
  have ql := rn_le (n := n) (f := f) (P := isBl) (n - p) p (by omega)
  rw [← hq] at ql
  have tl := rn_le (n := n) (f := f) (P := isLt) (n - q) q (by omega)
  rw [← ht] at tl
  obtain ⟨σ1, a, b, c, d, g⟩ := c_goOn h hp e
  rw [← hq] at c d g
  have k : Kr f n σ1 := h.d b.d
  obtain ⟨x1, x2⟩ := tk_lt (f := f) (n := n) (q := q) (by omega)
  rw [← ht] at x1 x2
  have F1 : FU = 999999 + 1 := rfl
  unfold kX0_readWord kX0_readWord_40 kX0_readWord_41
  rw [gfi_ok h.1.1, bind_s, e6, if_pos rfl, ckd_ok h.1.1, a, bind_s, gfi_ok k.1.1, bind_s, c]
  have s3 : tks f n q ≤ 3 := by
    unfold tks
    split
    · exact so_le.2
    · omega
  by_cases z : tks f n q = 1
  · have g := g
    rw [x2 z] at g
    have qt := x1.mp z
    rw [if_pos (by rw [z]; rfl)]
    simp only [gfi_ok k.1.1, bind_s, g, d]
    rw [pk_sub (by omega), show (6 : Int32) = nI 6 from rfl]
    by_cases y : t ≤ q + 6
    · obtain ⟨v, w1, w2⟩ := c_word49 (f := f) (σ := σ1) (q := q) tl.2 (t - q) FU q 0 (by have := FU_gt (m := t - q + 1) (by omega); omega) (by omega) (fun i h1 h2 => rn_in (n := n) (n - q) q i (by omega) h1 (by rw [← ht]; exact h2)) k g d
      have w1 : kX0_readWord_49 FU 53 1 0 (nI q) σ1 = _ := w1
      rw [if_neg (by rw [nI_ltI (by omega) (by omega)]; omega), w1]
      by_cases gg : gd8 f (t - q) q = true
      · rw [if_pos gg, if_pos ⟨by omega, y, gg⟩]
        exact ⟨v, σ1, rfl, b, fun _ => ⟨w2 gg, g⟩⟩
      · rw [if_neg gg, if_neg (fun w => gg w.2.2)]
        exact ⟨v, σ1, rfl, b, fun w => absurd w.2.2 gg⟩
    · rw [if_pos (by rw [nI_ltI (by omega) (by omega)]; omega), F1, c_word49z k g d, if_neg (fun w => y w.2.1)]
      exact ⟨_, σ1, rfl, b, fun w => absurd w.2.1 y⟩
  · have qt : t = q := Classical.byContradiction (fun w => z (x1.mpr w))
    rw [if_neg (by rw [show (1 : Int32) = nI 1 from rfl, nI_eq (by omega) (by omega)]; exact z), gfi_ok k.1.1, bind_s, F1, c_word49z k g d, if_neg (fun w => by omega)]
    exact ⟨_, σ1, rfl, b, fun w => by omega⟩
theorem isLt_m1 : isLt (-1) = false := by decide
theorem bI_lt0 {p : Nat} (z : ¬ (p < n ∧ isLt (f p) = true)) : bI (isLt (if p < n then f p else -1) = true) = 0 := by
  unfold bI
  rw [if_neg]
  by_cases y : p < n
  · rw [if_pos y]; exact fun w => z ⟨y, w⟩
  · rw [if_neg y, isLt_m1]; decide
theorem bI_lt1 {p : Nat} (z : p < n ∧ isLt (f p) = true) : bI (isLt (if p < n then f p else -1) = true) = 1 := by
  unfold bI
  rw [if_pos]
  rw [if_pos z.1]; exact z.2
theorem rn_s {P : Int32 → Bool} {m p : Nat} (z : p < n ∧ P (f p) = true) : rn f n P (m + 1) p = rn f n P m (p + 1) := by
  show (if p < n ∧ P (f p) = true then _ else _) = _
  rw [if_pos z]
theorem rn_z {P : Int32 → Bool} {m p : Nat} (z : ¬ (p < n ∧ P (f p) = true)) : rn f n P m p = p := by
  cases m with
  | zero => rfl
  | succ m =>
    show (if p < n ∧ P (f p) = true then _ else _) = _
    rw [if_neg z]
theorem r_let0 : ∀ (m F p : Nat) (a : Int32) (S : MS), m < F → p + m = n → Rsh f n S → S.2 46 = nI p → ∃ S', r_readLetters_4 F a 0 S = some (-1, S') ∧ S'.1 = S.1 ∧ S'.2 46 = nI (rn f n isLt m p) ∧ ∀ k, k ≠ 46 → S'.2 k = S.2 k
  | m, 0, _, _, _, h, _, _, _ => absurd h (Nat.not_lt_zero m)
  | m, F + 1, p, a, S, hF, hp, h, e => by
    have n3 := h.1
    by_cases z : p < n ∧ isLt (f p) = true
    · obtain ⟨m, rfl⟩ : ∃ k, m = k + 1 := ⟨m - 1, by omega⟩
      unfold r_readLetters_4 r_readLetters_60 r_readLetters_61 r_readLetters_73
      simp only [e, r_byteAt_eq h (show p ≤ 300 by omega), bind_s, r_isLetter_eq, bI_lt1 z, nI_1, if_true]
      rw [if_neg (show ¬ (1 : Int32) = 0 by decide)]
      obtain ⟨S', k1, k2, k3, k4⟩ := r_let0 m F (p + 1) a (pf S 46 (nI (p + 1))) (by omega) (by omega) (h.pf (by omega)) pf_s
      refine ⟨S', k1, by rw [k2, pf_1], by rw [k3, rn_s z], fun k hk => by rw [k4 k hk, pf_n hk]⟩
    · unfold r_readLetters_4
      simp only [e, r_byteAt_eq h (show p ≤ 300 by omega), bind_s, r_isLetter_eq, bI_lt0 z, if_true]
      exact ⟨S, rfl, rfl, by rw [e, rn_z z], fun k hk => rfl⟩
theorem r_let1 {q : Nat} : ∀ (m F p a : Nat) (S : MS), m < F → p + m = n → q ≤ p → p ≤ q + 6 → Pww (p - q) a → Rsh f n S → S.2 46 = nI p → S.2 47 = nI q → ∃ v S', r_readLetters_4 F (nI a) 1 S = some (v, S') ∧ S'.1 = S.1 ∧ S'.2 46 = nI (rn f n isLt m p) ∧ (∀ k, k ≠ 46 → S'.2 k = S.2 k) ∧ (((q < rn f n isLt m p ∧ rn f n isLt m p ≤ q + 6 ∧ gd8 f (rn f n isLt m p - p) p = true) ∧ v = nI (wv f (rn f n isLt m p - p) p a) ∧ Pww (rn f n isLt m p - q) (wv f (rn f n isLt m p - p) p a)) ∨ (¬ (q < rn f n isLt m p ∧ rn f n isLt m p ≤ q + 6 ∧ gd8 f (rn f n isLt m p - p) p = true) ∧ v = -1))
  | m, 0, _, _, _, h, _, _, _, _, _, _, _ => absurd h (Nat.not_lt_zero m)
  | m, F + 1, p, a, S, hF, hp, hq, h6, pw, h, e, e7 => by
    have n3 := h.1
    have a9 := pw.lt (by omega)
    by_cases z : p < n ∧ isLt (f p) = true
    · obtain ⟨m, rfl⟩ : ∃ k, m = k + 1 := ⟨m - 1, by omega⟩
      obtain ⟨l1, l2, l3⟩ := ltn_or z.2
      have tl := rn_le (n := n) (f := f) (P := isLt) m (p + 1) (by omega)
      have s : (f p - 97) + 1 = nI (ltn (f p)) := by
        conv => lhs; rw [l3]
        exact wstep_d l1
      have h1 : Rsh f n (pf S 46 (nI (p + 1))) := h.pf (by omega)
      have bl : bI (isLt (f p) = true) = 1 := if_pos z.2
      unfold r_readLetters_4 r_readLetters_60 r_readLetters_61 r_readLetters_73
      simp only [e, e7, r_byteAt_eq h (show p ≤ 300 by omega), bind_s, r_isLetter_eq, bl, nI_1, rn_s z, pk_sub hq, if_pos z.1, s, if_true]
      rw [if_neg (show ¬ (1 : Int32) = 0 by decide), if_neg (show ¬ (1 : Int32) = 0 by decide)]
      have sg : rn f n isLt m (p + 1) - p = rn f n isLt m (p + 1) - (p + 1) + 1 := by omega
      have bad : ¬ (q < rn f n isLt m (p + 1) ∧ rn f n isLt m (p + 1) ≤ q + 6 ∧ gd8 f (rn f n isLt m (p + 1) - p) p = true) → ∃ v S', r_readLetters_4 F (nI a) 0 (pf S 46 (nI (p + 1))) = some (v, S') ∧ S'.1 = S.1 ∧ S'.2 46 = nI (rn f n isLt m (p + 1)) ∧ (∀ k, k ≠ 46 → S'.2 k = S.2 k) ∧ (((q < rn f n isLt m (p + 1) ∧ rn f n isLt m (p + 1) ≤ q + 6 ∧ gd8 f (rn f n isLt m (p + 1) - p) p = true) ∧ v = nI (wv f (rn f n isLt m (p + 1) - p) p a) ∧ Pww (rn f n isLt m (p + 1) - q) (wv f (rn f n isLt m (p + 1) - p) p a)) ∨ (¬ (q < rn f n isLt m (p + 1) ∧ rn f n isLt m (p + 1) ≤ q + 6 ∧ gd8 f (rn f n isLt m (p + 1) - p) p = true) ∧ v = -1)) := fun y => by
        obtain ⟨S', k1, k2, k3, k4⟩ := r_let0 m F (p + 1) (nI a) (pf S 46 (nI (p + 1))) (by omega) (by omega) h1 pf_s
        exact ⟨-1, S', k1, by rw [k2, pf_1], k3, fun k hk => by rw [k4 k hk, pf_n hk], Or.inr ⟨y, rfl⟩⟩
      by_cases y : ltn (f p) ≤ 8
      · rw [if_neg (by rw [show (8 : Int32) = nI 8 from rfl, nI_ltI (by omega) (by omega)]; omega)]
        by_cases w : 6 ≤ p - q
        · rw [if_pos (by rw [show (6 : Int32) = nI 6 from rfl, nI_leI (by omega) (by omega)]; exact w)]
          exact bad (fun u => by omega)
        · rw [if_neg (by rw [show (6 : Int32) = nI 6 from rfl, nI_leI (by omega) (by omega)]; exact w), if_neg (show ¬ (1 : Int32) = 0 by decide), wstep_r]
          have pw1 : Pww (p + 1 - q) (9 * a + ltn (f p)) := by
            rw [show p + 1 - q = p - q + 1 by omega]
            exact pw.s l1 y
          obtain ⟨v, S', k1, k2, k3, k4, k5⟩ := r_let1 m F (p + 1) (9 * a + ltn (f p)) (pf S 46 (nI (p + 1))) (by omega) (by omega) (by omega) (by omega) pw1 h1 pf_s (by rw [pf_n (by omega)]; exact e7)
          refine ⟨v, S', k1, by rw [k2, pf_1], k3, fun k hk => by rw [k4 k hk, pf_n hk], ?_⟩
          rw [sg]
          unfold gd8 wv
          rw [decide_eq_true y, Bool.true_and]
          exact k5
      · rw [if_pos (by rw [show (8 : Int32) = nI 8 from rfl, nI_ltI (by omega) (by omega)]; omega)]
        refine bad (fun u => ?_)
        have u := u.2.2
        rw [sg] at u
        unfold gd8 at u
        rw [decide_eq_false y, Bool.false_and] at u
        cases u
    · unfold r_readLetters_4
      simp only [e, r_byteAt_eq h (show p ≤ 300 by omega), bind_s, r_isLetter_eq, bI_lt0 z, rn_z z, Nat.sub_self, if_true]
      rw [if_neg (show ¬ (1 : Int32) = 0 by decide)]
      by_cases y : q < p
      · have a0 := pw.2.2 (by omega)
        rw [if_neg (by rw [show (0 : Int32) = nI 0 from rfl, nI_leI (by omega) (by omega)]; omega)]
        exact ⟨_, S, rfl, rfl, e, fun k hk => rfl, Or.inl ⟨⟨y, h6, rfl⟩, rfl, pw⟩⟩
      · have a0 : a = 0 := by
          have := pw.1
          rw [show p - q = 0 by omega] at this
          omega
        rw [if_pos (by rw [a0]; decide)]
        exact ⟨_, S, rfl, rfl, e, fun k hk => rfl, Or.inr ⟨fun u => y u.1, rfl⟩⟩
/-- the reference reads a word -/
theorem r_readWord_eq {x p q t : Nat} (hx : x < 300) (h : Rsh f n S) (hp : p ≤ n) (e : S.2 46 = nI p) (hq : q = rn f n isBl (n - p) p) (ht : t = rn f n isLt (n - q) q) : ∃ r S', r_readWord S (nI x) = some (r, S') ∧ Rw x S S' ∧ S'.2 46 = nI t ∧ ((r = 1 ∧ (q < t ∧ t ≤ q + 6 ∧ gd8 f (t - q) q = true) ∧ S'.1 28 x = nI (wv f (t - q) q 0) ∧ isW (wv f (t - q) q 0) ∧ S'.2 45 = S.2 45) ∨ (r = 0 ∧ ¬ (q < t ∧ t ≤ q + 6 ∧ gd8 f (t - q) q = true) ∧ S'.2 45 = nI q)) := by
  have n3 := h.1
  have ql := rn_le (n := n) (f := f) (P := isBl) (n - p) p (by omega)
  rw [← hq] at ql
  obtain ⟨S1, a, b, c, d, g⟩ := r_skip_eq h hp e
  rw [← hq] at c d
  have w1 : Rw x S S1 := ⟨fun j _ => by rw [b], fun i _ => by rw [b], fun k q1 q2 q3 => g k q2 q3⟩
  obtain ⟨v, S2, k1, k2, k3, k4, k5⟩ := r_let1 (f := f) (q := q) (n - q) FU q 0 S1 (FU_gt (by omega)) (by omega) (Nat.le_refl _) (by omega) (by rw [Nat.sub_self]; exact Pww.z) (w1.sh h) c d
  rw [← ht] at k3 k5
  have k1 : r_readLetters S1 = some (v, S2) := k1
  have w2 : Rw x S1 S2 := ⟨fun j _ => by rw [k2], fun i _ => by rw [k2], fun k q1 q2 q3 => k4 k q2⟩
  have xl : x < m_len 28 := by rw [show m_len 28 = 300 from rfl]; omega
  unfold r_readWord r_readWord_31
  rw [a, bind_s, k1, bd2_s, wr_ok xl (by omega), bind_s, rd_up hx, bind_s]
  rcases k5 with ⟨g1, rfl, pw⟩ | ⟨g1, rfl⟩
  · have w := pw.w (by omega) (by omega)
    have := isW_lt w
    rw [if_neg (fun u => (nI_m1 (by omega)).mp u), zb_1, bind_s]
    refine ⟨1, _, rfl, (w1.tr w2).tr Rw.w, k3, Or.inl ⟨rfl, g1, up2_s, w, ?_⟩⟩
    show S2.2 45 = _
    rw [k4 45 (by omega), g 45 (by omega) (by omega)]
  · rw [if_pos rfl, r_isWrong_eq, bd2_s, if_pos rfl, zb_0, bind_s]
    refine ⟨0, _, rfl, ((w1.tr w2).tr Rw.w).tr (Rw.p (Or.inl rfl)), ?_, Or.inr ⟨rfl, g1, ?_⟩⟩
    · rw [pf_n (by omega)]; exact k3
    · rw [pf_s]
      show S2.2 47 = _
      rw [k4 47 (by omega)]; exact d
theorem j_rword {x p : Nat} (hx : x < 300) (h : Atp f n σ S p) : ∃ v σ' r S', kX0_readWord σ 53 = some (v, σ') ∧ r_readWord S (nI x) = some (r, S') ∧ Tkn f n σ S p x v σ' r S' ∧ (r = 1 → ∃ w, isW w ∧ v = nI w) := by
  obtain ⟨h1, h2, hp, e9, e46, e6, e45⟩ := h
  have n3 := h2.1
  have ql := rn_le (n := n) (f := f) (P := isBl) (n - p) p (by omega)
  have tl := rn_le (n := n) (f := f) (P := isLt) (n - rn f n isBl (n - p) p) (rn f n isBl (n - p) p) (by omega)
  obtain ⟨v, σ1, a1, a2, a4⟩ := c_readWord h1 e6 hp e9 rfl rfl
  obtain ⟨r, S', b1, b2, b3, b4⟩ := r_readWord_eq hx h2 hp e46 rfl rfl
  rcases b4 with ⟨rfl, g, b5, b7, b6⟩ | ⟨rfl, g, b5⟩
  · rw [if_pos g] at a1
    refine ⟨v, _, 1, S', a1, b1, ⟨a2.d.tr D69.x, b2, Or.inl ⟨rfl, by rw [b5]; exact (a4 g).1, _, by omega, h1.d (a2.d.tr D69.x), b2.sh h2, tl.2, ?_, b3, ?_, by rw [b6]; exact e45⟩⟩, fun _ => ⟨_, b7, (a4 g).1⟩⟩
    · rw [fi_sfi, if_neg (by omega)]; exact (a4 g).2
    · rw [fi_sfi, if_pos ⟨rfl, rfl⟩]
  · rw [if_neg g] at a1
    refine ⟨v, _, 0, S', a1, b1, ⟨a2.d.tr D69.x, b2, Or.inr ⟨rfl, ?_, ?_⟩⟩, fun w => absurd w (by decide)⟩
    · rw [fi_sfi, if_pos ⟨rfl, rfl⟩, b5]
    · rw [b5]; exact fun w => (nI_m1 (by omega)).mp w
end JWORD
