section TOK
variable {σ σ' σ1 σ2 : Hp} {n : Nat} {f : Nat → Int32}
theorem so_lt (x : Int32) : isLt x = decide (so x = 1) := by
  unfold isLt so
  by_cases a : 97 ≤ x ∧ x ≤ 122
  · rw [if_pos a, decide_eq_true a]; rfl
  · rw [if_neg a, decide_eq_false a]
    by_cases b : 48 ≤ x ∧ x ≤ 57
    · rw [if_pos b]; rfl
    · rw [if_neg b]; rfl
theorem so_fg (x : Int32) : isFg x = decide (so x = 2) := by
  unfold isFg so
  by_cases a : 97 ≤ x ∧ x ≤ 122
  · have b : ¬ (48 ≤ x ∧ x ≤ 57) := fun q => absurd (Int32.le_trans a.1 q.2) (by decide)
    rw [if_pos a, decide_eq_false b]; rfl
  · rw [if_neg a]
    by_cases b : 48 ≤ x ∧ x ≤ 57
    · rw [if_pos b, decide_eq_true b]; rfl
    · rw [if_neg b, decide_eq_false b]; rfl
theorem rn_step {P : Int32 → Bool} {q : Nat} (h : q < n) (hp : P (f q) = true) : rn f n P (n - q) q = rn f n P (n - (q + 1)) (q + 1) := by
  rw [show n - q = n - (q + 1) + 1 by omega]
  show (if q < n ∧ P (f q) = true then _ else _) = _
  rw [if_pos ⟨h, hp⟩]
theorem rn_stop {P : Int32 → Bool} {q : Nat} (h : ¬ (q < n ∧ P (f q) = true)) (hq : q ≤ n) : rn f n P (n - q) q = q := by
  by_cases z : q < n
  · rw [show n - q = n - (q + 1) + 1 by omega]
    show (if q < n ∧ P (f q) = true then _ else _) = _
    rw [if_neg h]
  · rw [show n - q = 0 by omega]; rfl
/-- a token of letters, of figures -/
theorem tk_lt {q : Nat} (hq : q ≤ n) : (tks f n q = 1 ↔ rn f n isLt (n - q) q ≠ q) ∧ (tks f n q = 1 → tke f n q = rn f n isLt (n - q) q) := by
  have eP : (fun x => decide (so x = 1)) = isLt := funext fun x => (so_lt x).symm
  unfold tks tke
  by_cases z : q < n
  · rw [if_pos z, if_pos z]
    by_cases y : so (f q) = 1
    · have p : isLt (f q) = true := by rw [so_lt]; exact decide_eq_true y
      have := (rn_le (n := n) (f := f) (P := isLt) (n - (q + 1)) (q + 1) (by omega)).1
      rw [y, if_neg (by decide), eP, rn_step z p]
      exact ⟨⟨fun _ e => by omega, fun _ => rfl⟩, fun _ => rfl⟩
    · have p : ¬ (q < n ∧ isLt (f q) = true) := fun k => by
        have := k.2
        rw [so_lt] at this
        exact y (of_decide_eq_true this)
      rw [rn_stop p hq]
      exact ⟨⟨fun e => absurd e y, fun e => absurd rfl e⟩, fun e => absurd e y⟩
  · rw [if_neg z, if_neg z, rn_stop (fun k => z k.1) hq]
    exact ⟨⟨fun e => by omega, fun e => absurd rfl e⟩, fun _ => rfl⟩
theorem tk_fg {q : Nat} (hq : q ≤ n) : (tks f n q = 2 ↔ rn f n isFg (n - q) q ≠ q) ∧ (tks f n q = 2 → tke f n q = rn f n isFg (n - q) q) := by
  have eP : (fun x => decide (so x = 2)) = isFg := funext fun x => (so_fg x).symm
  unfold tks tke
  by_cases z : q < n
  · rw [if_pos z, if_pos z]
    by_cases y : so (f q) = 2
    · have p : isFg (f q) = true := by rw [so_fg]; exact decide_eq_true y
      have := (rn_le (n := n) (f := f) (P := isFg) (n - (q + 1)) (q + 1) (by omega)).1
      rw [y, if_neg (by decide), eP, rn_step z p]
      exact ⟨⟨fun _ e => by omega, fun _ => rfl⟩, fun _ => rfl⟩
    · have p : ¬ (q < n ∧ isFg (f q) = true) := fun k => by
        have := k.2
        rw [so_fg] at this
        exact y (of_decide_eq_true this)
      rw [rn_stop p hq]
      exact ⟨⟨fun e => absurd e y, fun e => absurd rfl e⟩, fun e => absurd e y⟩
  · rw [if_neg z, if_neg z, rn_stop (fun k => z k.1) hq]
    exact ⟨⟨fun e => by omega, fun e => absurd rfl e⟩, fun _ => rfl⟩
end TOK
