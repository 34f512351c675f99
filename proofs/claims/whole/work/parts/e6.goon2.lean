section GOON2
variable {σ σ' σ1 σ2 : Hp} {n : Nat} {f : Nat → Int32}
/-- sort and end of the token at q -/
def tks (f : Nat → Int32) (n q : Nat) : Nat := if q < n then so (f q) else 0
def tke (f : Nat → Int32) (n q : Nat) : Nat := if q < n then (if so (f q) = 3 then q + 1 else rn f n (fun x => decide (so x = so (f q))) (n - (q + 1)) (q + 1)) else q
theorem c_goOn_46 (h : Kr f n σ) {q : Nat} (hq : q ≤ n) (e : σ.fi 8 53 = nI q) : ∃ σ', kX0_goOn_46 53 σ = some σ' ∧ D789 σ σ' ∧ σ'.fi 7 53 = nI (tks f n q) ∧ σ'.fi 8 53 = nI q ∧ σ'.fi 9 53 = nI (tke f n q) := by
  have n3 := h.2.1
  have k1 : Kr f n (sfi σ 9 53 (nI q)) := h.x (by omega)
  have e1 : (sfi σ 9 53 (nI q)).fi 8 53 = nI q := by rw [fi_sfi, if_neg (by omega)]; exact e
  unfold kX0_goOn_46 tks tke
  rw [gfi_ok h.1.1, bind_s, e, pfi_ok h.1.1, bind_s, gfi_ok k1.1.1, bind_s, e1, gfi_ok k1.1.1, bind_s, k1.2.2.1]
  by_cases z : q < n
  · have k2 : Kr f n (sfi (sfi σ 9 53 (nI q)) 7 53 (nI (so (f q)))) := k1.x (by omega)
    have e9 : (sfi (sfi σ 9 53 (nI q)) 7 53 (nI (so (f q)))).fi 9 53 = nI q := by rw [fi_sfi, if_neg (by omega), fi_sfi, if_pos ⟨rfl, rfl⟩]
    have k3 : Kr f n (sfi (sfi (sfi σ 9 53 (nI q)) 7 53 (nI (so (f q)))) 9 53 (nI (q + 1))) := k2.x (by omega)
    obtain ⟨σ', a, b, c, d, g⟩ := c_goOn_97 (s := so (f q)) so_le (n - (q + 1)) FU (q + 1) _ (FU_gt (by omega)) (by omega) k3 (by rw [fi_sfi, if_pos ⟨rfl, rfl⟩]) (by rw [fi_sfi, if_neg (by omega), fi_sfi, if_pos ⟨rfl, rfl⟩])
    refine ⟨σ', ?_, (((D789.x (Or.inr (Or.inr rfl))).tr (D789.x (Or.inl rfl))).tr (D789.x (Or.inr (Or.inr rfl)))).tr b, by rw [if_pos z]; exact c, ?_, by rw [if_pos z]; exact g⟩
    · rw [if_pos (by rw [nI_ltI (by omega) (by omega)]; exact z), gfr_ok k1.1.1, bind_s, k1.1.2.2.2, bind_s, ald_ok k1.1.2.1 (by rw [k1.1.2.2.1]; omega) (by omega), bind_s, k1.2.2.2 q z, sortOf_eq, bind_s, pfi_ok k1.1.1, bind_s, gfi_ok k2.1.1, bind_s, e9, nI_1, pfi_ok k2.1.1, bind_s, a]
    · rw [d, fi_sfi, if_neg (by omega), fi_sfi, if_neg (by omega)]; exact e1
  · rw [if_neg (by rw [nI_ltI (by omega) (by omega)]; exact z), pfi_ok k1.1.1, bind_s]
    refine ⟨_, rfl, (D789.x (Or.inr (Or.inr rfl))).tr (D789.x (Or.inl rfl)), by rw [fi_sfi, if_pos ⟨rfl, rfl⟩, if_neg z]; rfl, by rw [fi_sfi, if_neg (by omega)]; exact e1, ?_⟩
    rw [fi_sfi, if_neg (by omega), fi_sfi, if_pos ⟨rfl, rfl⟩, if_neg z]
theorem c_goOn_8 : ∀ (m F p : Nat) (σ : Hp), m < F → p + m = n → Kr f n σ → σ.fi 8 53 = nI p → ∃ σ', kX0_goOn_8 F 53 σ = some σ' ∧ D789 σ σ' ∧ σ'.fi 7 53 = nI (tks f n (rn f n isBl m p)) ∧ σ'.fi 8 53 = nI (rn f n isBl m p) ∧ σ'.fi 9 53 = nI (tke f n (rn f n isBl m p))
  | m, 0, _, _, h, _, _, _ => absurd h (Nat.not_lt_zero m)
  | 0, F + 1, p, σ, _, hp, h, e => by
    have := h.2.1
    unfold kX0_goOn_8 rn
    rw [gfi_ok h.1.1, bind_s, e, gfi_ok h.1.1, bind_s, h.2.2.1, if_pos (nI_le (by omega) (by omega))]
    exact c_goOn_46 h (by omega) e
  | m + 1, F + 1, p, σ, hF, hp, h, e => by
    have := h.2.1
    unfold kX0_goOn_8 rn
    simp only [gfi_ok h.1.1, bind_s, e, h.2.2.1]
    rw [if_neg (nI_ge (by omega) (by omega)), gfr_ok h.1.1, bind_s, h.1.2.2.2, ald_ok h.1.2.1 (by rw [h.1.2.2.1]; omega) (by omega), bind_s, h.2.2.2 p (by omega)]
    by_cases q : f p = 32
    · rw [if_pos q, if_pos ⟨by omega, decide_eq_true q⟩, nI_1, pfi_ok h.1.1, bind_s]
      obtain ⟨σ', a, b, c⟩ := c_goOn_8 m F (p + 1) (sfi σ 8 53 (nI (p + 1))) (by omega) (by omega) (h.x (by omega)) (by rw [fi_sfi, if_pos ⟨rfl, rfl⟩])
      exact ⟨σ', a, (D789.x (Or.inr (Or.inl rfl))).tr b, c⟩
    · rw [if_neg q, if_neg (fun y => q (of_decide_eq_true y.2))]
      exact c_goOn_46 h (by omega) e
/-- the class goes on to the next token -/
theorem c_goOn (h : Kr f n σ) {p : Nat} (hp : p ≤ n) (e : σ.fi 9 53 = nI p) : ∃ σ', kX0_goOn σ 53 = some σ' ∧ D789 σ σ' ∧ σ'.fi 7 53 = nI (tks f n (rn f n isBl (n - p) p)) ∧ σ'.fi 8 53 = nI (rn f n isBl (n - p) p) ∧ σ'.fi 9 53 = nI (tke f n (rn f n isBl (n - p) p)) := by
  have := h.2.1
  unfold kX0_goOn
  rw [gfi_ok h.1.1, bind_s, e, pfi_ok h.1.1, bind_s]
  obtain ⟨σ', a, b, c⟩ := c_goOn_8 (f := f) (n - p) FU p (sfi σ 8 53 (nI p)) (FU_gt (by omega)) (by omega) (h.x (by omega)) (by rw [fi_sfi, if_pos ⟨rfl, rfl⟩])
  exact ⟨σ', a, (D789.x (Or.inr (Or.inl rfl))).tr b, c⟩
end GOON2
