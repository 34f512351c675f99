section MEANJ
variable {σ : Hp} {S : MS} {V : Vt}
theorem prs : ∀ n : Fin 41, (nI n.val * (nI n.val - 1)) / 2 = nI (n.val * (n.val - 1) / 2) := by decide +kernel
/-- mean: the class's answer is the reference's -/
theorem j_mean (c : Cv σ V) (h : RW (S.1 0) 2 V) (hv : Vw V) (k2 : σ.kd 2 = 21) (f0 : σ.fr 1100 2 = 3) (f6 : σ.fr 1106 2 = 33) : ∃ r T, kX11_mean σ 2 = some r ∧ r_mean S = some (r, T) ∧ S2 S T := by
  obtain ⟨T, s2, e⟩ := r_mean_eq h hv
  have cl := cn_le V
  have np := nPairs_eq V
  have fs := fSum_le hv
  have pm : cn V * (cn V - 1) ≤ 40 * 40 := Nat.mul_le_mul cl (by omega)
  have pd : (nI (cn V) * (nI (cn V) - 1)) / 2 = nI (nPairs V) := by
    have := prs ⟨cn V, by omega⟩
    have e2 : cn V * (cn V - 1) / 2 = nPairs V := by omega
    rw [← e2]
    exact this
  have st : gfr σ 21 1100 2 = some 3 := by rw [gfr_ok k2, f0]
  have sv : gfr σ 21 1106 2 = some 33 := by rw [gfr_ok k2, f6]
  rw [e]
  unfold kX11_mean
  rw [st, bind_s, c.n, bind_s, bind_s, c.n, bind_s, pd]
  by_cases z : nPairs V = 0
  · rw [z, if_neg (by decide), if_pos rfl]
    exact ⟨0, T, rfl, rfl, s2⟩
  · obtain ⟨v, w, g1, g2, g3⟩ := mean_bits (σ := σ) (s := fSum V) (n := nPairs V) (by omega) z (by omega)
    rw [if_neg z, show (0 : Int32) = nI 0 from rfl, if_pos (nI_lt (by omega) (by omega)), sv, bind_s, c.k33, c_sumOfPairs c hv, bind_s, g1, bind_s, g2, bind_s, bind_s, g3, bind_s]
    exact ⟨w, T, rfl, rfl, s2⟩
end MEANJ
