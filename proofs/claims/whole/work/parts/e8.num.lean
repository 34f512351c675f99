section NUMS
variable {σ σ' σ1 σ2 : Hp} {n : Nat} {f : Nat → Int32}
/-- the value of m figures -/
def nv (f : Nat → Int32) : Nat → Nat → Int32 → Int32
  | 0, _, a => a
  | m + 1, q, a => nv f m (q + 1) (((a * 10) + f q) - 48)
theorem c_num48 {t : Nat} (ht : t ≤ n) : ∀ (m F p : Nat) (a : Int32), m < F → p + m = t → Kr f n σ → σ.fi 9 53 = nI t → kX0_readNumber_48 F 53 1 a (nI p) σ = some (nv f m p a, sfi σ 6 53 (-1))
  | m, 0, _, _, h, _, _, _ => absurd h (Nat.not_lt_zero m)
  | 0, F + 1, p, a, _, hp, h, e => by
    have := h.2.1
    unfold kX0_readNumber_48 kX0_readNumber_81 nv
    rw [gfi_ok h.1.1, bind_s, e, if_pos (nI_le (by omega) (by omega)), if_neg (show ¬ (1 : Int32) = 0 by decide), pfi_ok h.1.1, bind_s]
  | m + 1, F + 1, p, a, hF, hp, h, e => by
    have := h.2.1
    unfold kX0_readNumber_48 nv
    rw [gfi_ok h.1.1, bind_s, e, if_neg (nI_ge (by omega) (by omega)), if_neg (show ¬ (1 : Int32) = 0 by decide), gfr_ok h.1.1, bind_s, h.1.2.2.2, ald_ok h.1.2.1 (by rw [h.1.2.2.1]; omega) (by omega), bind_s, h.2.2.2 p (by omega), nI_1]
    exact c_num48 ht m F (p + 1) _ (by omega) (by omega) h e
theorem c_num48z (h : Kr f n σ) {t q : Nat} (e : σ.fi 9 53 = nI t) (e8 : σ.fi 8 53 = nI q) {F : Nat} {a x : Int32} : kX0_readNumber_48 (F + 1) 53 0 a x σ = some (a, sfi σ 6 53 (nI q)) := by
  have r : kX0_readNumber_81 53 0 a σ = some (a, sfi σ 6 53 (nI q)) := by
    unfold kX0_readNumber_81
    rw [if_pos rfl, gfi_ok h.1.1, bind_s, e8, pfi_ok h.1.1, bind_s]
  unfold kX0_readNumber_48
  rw [gfi_ok h.1.1, bind_s, if_pos rfl, r]
  split <;> rfl
/-- the class reads a number -/
theorem c_readNumber (h : Kr f n σ) (e6 : σ.fi 6 53 = -1) {p q t : Nat} (hp : p ≤ n) (e : σ.fi 9 53 = nI p) (hq : q = rn f n isBl (n - p) p) (ht : t = rn f n isFg (n - q) q) : ∃ v σ1, kX0_readNumber σ 53 = some (v, sfi σ1 6 53 (if q < t ∧ t ≤ q + 3 then -1 else nI q)) ∧ D789 σ σ1 ∧ Kr f n σ1 ∧ (q < t ∧ t ≤ q + 3 → v = nv f (t - q) q 0 ∧ σ1.fi 9 53 = nI t) := by
  have n3 := h.2.1
  have ql := rn_le (n := n) (f := f) (P := isBl) (n - p) p (by omega)
  rw [← hq] at ql
  have tl := rn_le (n := n) (f := f) (P := isFg) (n - q) q (by omega)
  rw [← ht] at tl
  obtain ⟨σ1, a, b, c, d, g⟩ := c_goOn h hp e
  rw [← hq] at c d g
  have k : Kr f n σ1 := ⟨⟨by rw [b.1.1.1]; exact h.1.1, by rw [b.1.1.1]; exact h.1.2.1, by rw [b.1.1.2.1]; exact h.1.2.2.1, by rw [b.1.1.2.2.1]; exact h.1.2.2.2⟩, n3, by rw [b.2 1 (by omega) (by omega) (by omega)]; exact h.2.2.1, fun i hi => by rw [(b.1.2 54 (by omega)).2]; exact h.2.2.2 i hi⟩
  obtain ⟨x1, x2⟩ := tk_fg (f := f) (n := n) (q := q) (by omega)
  rw [← ht] at x1 x2
  have F1 : FU = 999999 + 1 := rfl
  unfold kX0_readNumber kX0_readNumber_39 kX0_readNumber_40
  rw [gfi_ok h.1.1, bind_s, e6, if_pos rfl, ckd_ok h.1.1, a, bind_s, gfi_ok k.1.1, bind_s, c]
  have s3 : tks f n q ≤ 3 := by
    unfold tks
    split
    · exact so_le.2
    · omega
  by_cases z : tks f n q = 2
  · have g := g
    rw [x2 z] at g
    have qt := x1.mp z
    rw [if_pos (by rw [z]; rfl)]
    simp only [gfi_ok k.1.1, bind_s, g, d]
    rw [pk_sub (by omega), show (3 : Int32) = nI 3 from rfl]
    by_cases y : t ≤ q + 3
    · rw [if_neg (by rw [nI_ltI (by omega) (by omega)]; omega), c_num48 tl.2 (t - q) FU q 0 (FU_gt (by omega)) (by omega) k g, if_pos ⟨by omega, y⟩]
      exact ⟨_, σ1, rfl, b, k, fun _ => ⟨rfl, g⟩⟩
    · rw [if_pos (by rw [nI_ltI (by omega) (by omega)]; omega), F1, c_num48z k g d, if_neg (fun w => y w.2)]
      exact ⟨_, σ1, rfl, b, k, fun w => absurd w.2 y⟩
  · have qt : t = q := Classical.byContradiction (fun w => z (x1.mpr w))
    rw [if_neg (by rw [show (2 : Int32) = nI 2 from rfl, nI_eq (by omega) (by omega)]; exact z), gfi_ok k.1.1, bind_s, F1, c_num48z k g d, if_neg (fun w => by omega)]
    exact ⟨_, σ1, rfl, b, k, fun w => by omega⟩
end NUMS
