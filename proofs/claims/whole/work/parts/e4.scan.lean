section SCAN
variable {σ σ' σ1 σ2 : Hp} {S S' S1 : MS} {n : Nat} {f : Nat → Int32}
/-- the end of a run on the sheet -/
def rn (f : Nat → Int32) (n : Nat) (P : Int32 → Bool) : Nat → Nat → Nat
  | 0, p => p
  | m + 1, p => if p < n ∧ P (f p) = true then rn f n P m (p + 1) else p
def isBl (x : Int32) : Bool := decide (x = 32)
def isLt (x : Int32) : Bool := decide (97 ≤ x ∧ x ≤ 122)
def isFg (x : Int32) : Bool := decide (48 ≤ x ∧ x ≤ 57)
theorem rn_le {P : Int32 → Bool} : ∀ (m p : Nat), p + m = n → p ≤ rn f n P m p ∧ rn f n P m p ≤ n
  | 0, p, h => ⟨Nat.le_refl _, by unfold rn; omega⟩
  | m + 1, p, h => by
    unfold rn
    by_cases q : p < n ∧ P (f p) = true
    · rw [if_pos q]
      have := rn_le (P := P) m (p + 1) (by omega)
      omega
    · rw [if_neg q]; omega
/-- behind a run stands no more of it -/
theorem rn_end {P : Int32 → Bool} : ∀ (m p : Nat), p + m = n → ¬ (rn f n P m p < n ∧ P (f (rn f n P m p)) = true)
  | 0, p, h => by unfold rn; omega
  | m + 1, p, h => by
    unfold rn
    by_cases q : p < n ∧ P (f p) = true
    · rw [if_pos q]; exact rn_end m (p + 1) (by omega)
    · rw [if_neg q]; exact q
theorem rn_in {P : Int32 → Bool} : ∀ (m p i : Nat), p + m = n → p ≤ i → i < rn f n P m p → P (f i) = true
  | 0, p, i, h, h1, h2 => by unfold rn at h2; omega
  | m + 1, p, i, h, h1, h2 => by
    unfold rn at h2
    by_cases q : p < n ∧ P (f p) = true
    · rw [if_pos q] at h2
      by_cases z : i = p
      · rw [z]; exact q.2
      · exact rn_in m (p + 1) i (by omega) (by omega) h2
    · rw [if_neg q] at h2; omega
/-- the reference's sheet -/
def Rsh (f : Nat → Int32) (n : Nat) (S : MS) : Prop := n ≤ 300 ∧ S.2 44 = nI n ∧ (∀ i, i < n → S.1 26 i = f i ∧ f i ≠ -1) ∧ ∀ i, i < 62 → S.1 27 i = nmL.getD i 0
theorem r_byteAt_eq (h : Rsh f n S) {p : Nat} (hp : p ≤ 300) : r_byteAt S (nI p) = some (if p < n then f p else -1) := by
  obtain ⟨a, b, c, -⟩ := h
  unfold r_byteAt
  rw [b]
  by_cases q : p < n
  · rw [if_neg (nI_ge q (by omega)), rd_ok (show p < m_len 26 by rw [show m_len 26 = 300 from rfl]; omega) (by omega), bind_s, if_pos q, (c p q).1]
  · rw [if_pos (nI_le (by omega) (by omega)), if_neg q]
theorem Rsh.pf (h : Rsh f n S) {k : Nat} {v : Int32} (hk : k ≠ 44) : Rsh f n (pf S k v) := ⟨h.1, by rw [pf_n (fun e => hk e.symm)]; exact h.2.1, h.2.2⟩
/-- blanks are skipped -/
theorem r_skip_0_eq : ∀ (m F p : Nat) (S : MS), m < F → p + m = n → Rsh f n S → S.2 46 = nI p → ∃ S', r_skip_0 F S = some S' ∧ S'.1 = S.1 ∧ S'.2 46 = nI (rn f n isBl m p) ∧ S'.2 47 = nI (rn f n isBl m p) ∧ ∀ k, k ≠ 46 → k ≠ 47 → S'.2 k = S.2 k
  | m, 0, _, _, h, _, _, _ => absurd h (Nat.not_lt_zero m)
  | 0, F + 1, p, S, _, hp, h, e => by
    have := h.1
    unfold r_skip_0 rn
    rw [e, r_byteAt_eq h (by omega), bind_s, if_neg (show ¬ p < n by omega), if_neg (by decide)]
    exact ⟨_, rfl, rfl, by rw [pf_n (by omega)]; exact e, pf_s, fun k h1 h2 => pf_n h2⟩
  | m + 1, F + 1, p, S, hF, hp, h, e => by
    have := h.1
    unfold r_skip_0 rn
    rw [e, r_byteAt_eq h (by omega), bind_s, if_pos (show p < n by omega)]
    by_cases q : f p = 32
    · rw [if_pos q, if_pos ⟨by omega, decide_eq_true q⟩, nI_1]
      obtain ⟨S', a, b, c, d, g⟩ := r_skip_0_eq m F (p + 1) (pf S 46 (nI (p + 1))) (by omega) (by omega) (h.pf (by omega)) pf_s
      exact ⟨S', a, b, c, d, fun k h1 h2 => by rw [g k h1 h2, pf_n h1]⟩
    · rw [if_neg q, if_neg (fun y => q (of_decide_eq_true y.2))]
      exact ⟨_, rfl, rfl, by rw [pf_n (by omega)]; exact e, pf_s, fun k h1 h2 => pf_n h2⟩
theorem r_skip_eq {p : Nat} (h : Rsh f n S) (hp : p ≤ n) (e : S.2 46 = nI p) : ∃ S', r_skip S = some S' ∧ S'.1 = S.1 ∧ S'.2 46 = nI (rn f n isBl (n - p) p) ∧ S'.2 47 = nI (rn f n isBl (n - p) p) ∧ ∀ k, k ≠ 46 → k ≠ 47 → S'.2 k = S.2 k := by
  have := h.1
  have s : r_skip S = r_skip_0 (FU + 1) S := rfl
  rw [s]
  exact r_skip_0_eq (n - p) (FU + 1) p S (by have := FU_gt (m := n - p) (by omega); omega) (by omega) h e
end SCAN
