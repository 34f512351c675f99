section RKEEP
variable {S : MS}
/-- where a step lies -/
def sb (f i : Nat) : Nat := 23612 * (1 + (f + i) % 20) + 2
theorem sb_le (f i : Nat) : 23614 ≤ sb f i ∧ sb f i + 23612 ≤ 495854 := by
  unfold sb
  have h : (f + i) % 20 < 20 := Nat.mod_lt _ (by decide)
  have h1 : 23612 * 1 ≤ 23612 * (1 + (f + i) % 20) := Nat.mul_le_mul_left _ (by omega)
  have h2 : 23612 * (1 + (f + i) % 20) ≤ 23612 * 20 := Nat.mul_le_mul_left _ (by omega)
  omega
theorem sb_ne {f i j : Nat} (h : (f + i) % 20 ≠ (f + j) % 20) : sb f i + 23612 ≤ sb f j ∨ sb f j + 23612 ≤ sb f i := by
  unfold sb
  rcases Nat.lt_or_ge ((f + i) % 20) ((f + j) % 20) with q | q
  · have : 23612 * (1 + (f + i) % 20 + 1) ≤ 23612 * (1 + (f + j) % 20) := Nat.mul_le_mul_left _ (by omega)
    omega
  · have : 23612 * (1 + (f + j) % 20 + 1) ≤ 23612 * (1 + (f + i) % 20) := Nat.mul_le_mul_left _ (by omega)
    omega
theorem r_stepAt_eq {f i : Nat} (hf : f < 100) (hi : i < 100) : r_stepAt S (nI f) (nI i) = some (nI (sb f i)) := by
  unfold r_stepAt sb
  rw [nI_add, show (20 : Int32) = nI 20 from rfl, pk_rem (by omega) (by decide) (by decide), show (23614 : Int32) = nI 23614 from rfl, show (23612 : Int32) = nI 23612 from rfl, pk_mul, nI_add]
  have : 23614 + 23612 * ((f + i) % 20) = 23612 * (1 + (f + i) % 20) + 2 := by rw [Nat.mul_add]; omega
  rw [this]
theorem r_keep56 {b : Nat} (hb : 23614 ≤ b) (hb2 : b + 23612 ≤ 495854) : ∀ (m F k : Nat) (R : Nat → Int32), m < F → k + m = 23612 → (∀ x, x < k → R (b + x) = R (2 + x)) → ∃ R', r_keep_56 F (nI b) (nI k) (r0 S R) = some (r0 S R') ∧ R' 0 = R 0 + 1 ∧ (∀ x, x < 23612 → R' (b + x) = R (2 + x)) ∧ ∀ x, x ≠ 0 → x < b ∨ b + 23612 ≤ x → R' x = R x
  | m, 0, _, _, h, _, _ => absurd h (Nat.not_lt_zero m)
  | 0, F + 1, k, R, _, hk, hd => by
    have : k = 23612 := by omega
    subst this
    rw [r_keep_56.eq_2, if_pos (by decide), show (0 : Int32) = nI 0 from rfl, rd_r0 (by omega), bind_s, r0_0, wr_r0 (by omega), bind_s, r0_r0, r0_0]
    refine ⟨_, rfl, upd_s, fun x hx => by rw [upd_n (by omega)]; exact hd x hx, fun x h1 _ => upd_n h1⟩
  | m + 1, F + 1, k, R, hF, hk, hd => by
    obtain ⟨R', g1, g2, g3, g4⟩ := r_keep56 hb hb2 m F (k + 1) (upd R (b + k) (R (2 + k))) (by omega) (by omega) (fun x hx => by
      by_cases z : x = k
      · rw [z, upd_s, upd_n (by omega)]
      · rw [upd_n (by omega), upd_n (by omega)]; exact hd x (by omega))
    refine ⟨R', ?_, by rw [g2, upd_n (by omega)], fun x hx => by rw [g3 x hx, upd_n (by omega)], fun x h1 h2 => by rw [g4 x h1 h2, upd_n (by omega)]⟩
    rw [r_keep_56.eq_2, if_neg (show ¬ (23612 : Int32) ≤ nI k from nI_ge (b := 23612) (by omega) (by decide)), show (2 : Int32) = nI 2 from rfl, nI_add, rd_r0 (by omega), bind_s, r0_0, nI_add, wr_r0 (by omega), bind_s, r0_r0, r0_0, nI_1]
    exact g1
/-- the reference keeps a step -/
theorem r_keep_eq {n f : Nat} (h0 : S.1 0 0 = nI n) (h1 : S.1 0 1 = nI f) (hn : n ≤ 20) (hf : f < 20) : ∃ R' n' f', r_keep S = some (r0 S R') ∧ ((n = 20 ∧ n' = 19 ∧ f' = (f + 1) % 20) ∨ (n < 20 ∧ n' = n ∧ f' = f)) ∧ R' 0 = nI (n' + 1) ∧ R' 1 = nI f' ∧ (∀ x, 2 ≤ x → x < 23614 → R' x = S.1 0 x) ∧ (∀ x, x < 23612 → R' (sb f' n' + x) = S.1 0 (2 + x)) ∧ ∀ x, 23614 ≤ x → x < sb f' n' ∨ sb f' n' + 23612 ≤ x → R' x = S.1 0 x := by
  have main : ∀ (R : Nat → Int32) (n' f' : Nat), n' < 20 → f' < 20 → R 0 = nI n' → R 1 = nI f' → (∀ x, 2 ≤ x → R x = S.1 0 x) → ∃ R', r_keep_38 (r0 S R) = some (r0 S R') ∧ R' 0 = nI (n' + 1) ∧ R' 1 = nI f' ∧ (∀ x, 2 ≤ x → x < 23614 → R' x = S.1 0 x) ∧ (∀ x, x < 23612 → R' (sb f' n' + x) = S.1 0 (2 + x)) ∧ ∀ x, 23614 ≤ x → x < sb f' n' ∨ sb f' n' + 23612 ≤ x → R' x = S.1 0 x := by
    intro R n' f' hn' hf' e0 e1 e2
    have bl := sb_le f' n'
    obtain ⟨R', g1, g2, g3, g4⟩ := r_keep56 (S := S) bl.1 bl.2 23612 FU 0 R (FU_gt (by omega)) (by omega) (fun x hx => absurd hx (Nat.not_lt_zero _))
    refine ⟨R', ?_, by rw [g2, e0, nI_1], by rw [g4 1 (by decide) (by omega)]; exact e1, fun x x1 x2 => by rw [g4 x (by omega) (by omega)]; exact e2 x x1, fun x hx => by rw [g3 x hx]; exact e2 _ (by omega), fun x x1 x2 => by rw [g4 x (by omega) x2]; exact e2 x (by omega)⟩
    unfold r_keep_38
    rw [show (1 : Int32) = nI 1 from rfl, rd_r0 (by omega), bind_s, r0_0, e1, show (0 : Int32) = nI 0 from rfl, rd_r0 (by omega), bind_s, r0_0, e0, r_stepAt_eq (by omega) (by omega), bind_s]
    exact g1
  unfold r_keep
  rw [show (0 : Int32) = nI 0 from rfl, rd_r0 (by omega), bind_s, h0]
  by_cases z : n = 20
  · rw [if_pos (by rw [z]; rfl), show (1 : Int32) = nI 1 from rfl, rd_r0 (by omega), bind_s, h1, nI_add, show (20 : Int32) = nI 20 from rfl, pk_rem (by omega) (by decide) (by decide), wr_r0 (by omega), bind_s, rd_r0 (by omega), bind_s, r0_0, upd_n (by decide), h0, z, pk_sub (by decide), wr_r0 (by omega), bind_s, r0_r0, r0_0]
    have fm : (f + 1) % 20 < 20 := Nat.mod_lt _ (by decide)
    obtain ⟨R', g1, g2⟩ := main (upd (upd (S.1 0) 1 (nI ((f + 1) % 20))) 0 (nI (20 - 1))) 19 ((f + 1) % 20) (by decide) fm upd_s (by rw [upd_n (by decide), upd_s]) (fun x hx => by rw [upd_n (by omega), upd_n (by omega)])
    exact ⟨R', 19, (f + 1) % 20, g1, Or.inl ⟨rfl, rfl, rfl⟩, g2⟩
  · rw [if_neg (show ¬ nI n = (20 : Int32) from fun y => z ((nI_eq (b := 20) (by omega) (by decide)).mp y))]
    obtain ⟨R', g1, g2⟩ := main (S.1 0) n f (by omega) hf h0 h1 (fun _ _ => rfl)
    rw [r0_self] at g1
    exact ⟨R', n, f, g1, Or.inr ⟨by omega, rfl, rfl⟩, g2⟩
theorem r_undo39 {b : Nat} (hb : 23614 ≤ b) (hb2 : b + 23612 ≤ 495854) : ∀ (m F k : Nat) (R : Nat → Int32), m < F → k + m = 23612 → (∀ x, x < k → R (2 + x) = R (b + x)) → ∃ R', r_undo_39 F (nI b) (nI k) (r0 S R) = some (R 0, r0 S R') ∧ (∀ x, x < 23612 → R' (2 + x) = R (b + x)) ∧ ∀ x, x < 2 ∨ 23614 ≤ x → R' x = R x
  | m, 0, _, _, h, _, _ => absurd h (Nat.not_lt_zero m)
  | 0, F + 1, k, R, _, hk, hd => by
    have : k = 23612 := by omega
    subst this
    rw [r_undo_39.eq_2, if_pos (by decide), show (0 : Int32) = nI 0 from rfl, rd_r0 (by omega), bind_s, r0_0]
    exact ⟨R, rfl, hd, fun _ _ => rfl⟩
  | m + 1, F + 1, k, R, hF, hk, hd => by
    obtain ⟨R', g1, g2, g3⟩ := r_undo39 hb hb2 m F (k + 1) (upd R (2 + k) (R (b + k))) (by omega) (by omega) (fun x hx => by
      by_cases z : x = k
      · rw [z, upd_s, upd_n (by omega)]
      · rw [upd_n (by omega), upd_n (by omega)]; exact hd x (by omega))
    refine ⟨R', ?_, fun x hx => by rw [g2 x hx, upd_n (by omega)], fun x h1 => by rw [g3 x h1, upd_n (by omega)]⟩
    rw [r_undo_39.eq_2, if_neg (show ¬ (23612 : Int32) ≤ nI k from nI_ge (b := 23612) (by omega) (by decide)), nI_add, rd_r0 (by omega), bind_s, r0_0, show (2 : Int32) = nI 2 from rfl, nI_add, wr_r0 (by omega), bind_s, r0_r0, r0_0, nI_1]
    rw [upd_n (show 0 ≠ 2 + k by omega)] at g1
    exact g1
/-- the reference takes a step back -/
theorem r_undo_eq {n f : Nat} (h0 : S.1 0 0 = nI (n + 1)) (h1 : S.1 0 1 = nI f) (hn : n < 20) (hf : f < 20) : ∃ R', r_undo S = some (nI n, r0 S R') ∧ R' 0 = nI n ∧ R' 1 = nI f ∧ (∀ x, x < 23612 → R' (2 + x) = S.1 0 (sb f n + x)) ∧ ∀ x, 23614 ≤ x → R' x = S.1 0 x := by
  have bl := sb_le f n
  obtain ⟨R', g1, g2, g3⟩ := r_undo39 (S := S) bl.1 bl.2 23612 FU 0 (upd (S.1 0) 0 (nI n)) (FU_gt (by omega)) (by omega) (fun x hx => absurd hx (Nat.not_lt_zero _))
  refine ⟨R', ?_, by rw [g3 0 (by omega), upd_s], by rw [g3 1 (by omega), upd_n (by decide)]; exact h1, fun x hx => by rw [g2 x hx, upd_n (by omega)], fun x hx => by rw [g3 x (by omega), upd_n (by omega)]⟩
  unfold r_undo
  rw [show (0 : Int32) = nI 0 from rfl, rd_r0 (by omega), bind_s, h0, if_neg (show ¬ nI (n + 1) = nI 0 from nI_ne0 (by omega) (by omega)), bind_s, show (1 : Int32) = nI 1 from rfl, pk_sub (by omega), show n + 1 - 1 = n by omega, wr_r0 (by omega), bind_s, rd_r0 (by omega), bind_s, r0_0, upd_n (by decide), h1, rd_r0 (by omega), bind_s, r0_0, upd_s, r_stepAt_eq (by omega) (by omega), bind_s]
  rw [upd_s] at g1
  exact g1
theorem r_copy2 {a b : Nat} (hab : (a = 0 ∧ b = 1) ∨ (a = 1 ∧ b = 0)) : ∀ (m F k : Nat) (T : MS), m < F → k + m = 495854 → (∀ x, x < k → T.1 b x = T.1 a x) → (∀ x, 495854 ≤ x → T.1 b x = T.1 b x) → ∃ T' : MS, r_copy_2 F a b (nI k) T = some T' ∧ (∀ x, x < 495854 → T'.1 b x = T.1 a x) ∧ (∀ j, j ≠ b → T'.1 j = T.1 j) ∧ T'.2 = T.2
  | m, 0, _, _, h, _, _, _ => absurd h (Nat.not_lt_zero m)
  | 0, F + 1, k, T, _, hk, hd, _ => by
    have : k = 495854 := by omega
    subst this
    rw [r_copy_2.eq_2, if_pos (by decide)]
    exact ⟨T, rfl, hd, fun _ _ => rfl, rfl⟩
  | m + 1, F + 1, k, T, hF, hk, hd, _ => by
    have ab : a ≠ b := by omega
    obtain ⟨T', g1, g2, g3, g4⟩ := r_copy2 hab m F (k + 1) (up2 T.1 b k (T.1 a k), T.2) (by omega) (by omega) (fun x hx => by
      show up2 T.1 b k (T.1 a k) b x = up2 T.1 b k (T.1 a k) a x
      rw [up2_j ab]
      by_cases z : x = k
      · rw [z, up2_s]
      · rw [up2_n (fun q => z q.2)]; exact hd x (by omega)) (fun _ _ => rfl)
    refine ⟨T', ?_, fun x hx => ?_, fun j hj => ?_, g4⟩
    · have la : m_len a = 495854 := by rcases hab with ⟨h, -⟩ | ⟨h, -⟩ <;> rw [h] <;> rfl
      have lb : m_len b = 495854 := by rcases hab with ⟨-, h⟩ | ⟨-, h⟩ <;> rw [h] <;> rfl
      have ra : rdx T a (nI k) = some (T.1 a k) := by
        unfold rdx
        rw [if_pos (by rcases hab with ⟨h, -⟩ | ⟨h, -⟩ <;> rw [h] <;> decide), rd_ok (by rw [la]; omega) (by omega)]
      have wb : wrx T b (nI k) (T.1 a k) = some (up2 T.1 b k (T.1 a k), T.2) := by
        unfold wrx
        rw [if_pos (by rcases hab with ⟨-, h⟩ | ⟨-, h⟩ <;> rw [h] <;> decide), wr_ok (by rw [lb]; omega) (by omega)]
      rw [r_copy_2.eq_2, if_neg (show ¬ (495854 : Int32) ≤ nI k from nI_ge (b := 495854) (by omega) (by decide)), ra, bind_s, wb, bind_s, nI_1]
      exact g1
    · rw [g2 x hx]
      show up2 T.1 b k (T.1 a k) a x = _
      rw [up2_j ab]
    · rw [g3 j hj]
      show up2 T.1 b k (T.1 a k) j = _
      rw [up2_r hj]
theorem r_copy_eq {a b : Nat} (hab : (a = 0 ∧ b = 1) ∨ (a = 1 ∧ b = 0)) : ∃ T' : MS, r_copy S a b = some T' ∧ (∀ x, x < 495854 → T'.1 b x = S.1 a x) ∧ (∀ j, j ≠ b → T'.1 j = S.1 j) ∧ T'.2 = S.2 := by
  unfold r_copy
  exact r_copy2 hab 495854 FU 0 S (FU_gt (by omega)) (by omega) (fun x hx => absurd hx (Nat.not_lt_zero _)) (fun _ _ => rfl)
end RKEEP
