section GOON
variable {σ σ' σ1 σ2 : Hp} {n : Nat} {f : Nat → Int32}
/-- the class amid reading: its sheet -/
def Kr (f : Nat → Int32) (n : Nat) (σ : Hp) : Prop := (σ.kd 53 = 10 ∧ σ.kd 54 = 1 ∧ σ.ln 54 = 300 ∧ σ.fr 0 53 = 54) ∧ n ≤ 300 ∧ σ.fi 1 53 = nI n ∧ ∀ i, i < n → σ.ar 54 i = f i
theorem Kr.x (h : Kr f n σ) {i : Nat} {v : Int32} (hi : i ≠ 1) : Kr f n (sfi σ i 53 v) := ⟨h.1, h.2.1, by rw [fi_sfi, if_neg (fun q => hi q.1.symm)]; exact h.2.2.1, h.2.2.2⟩
/-- only the fields 7, 8, 9 of the commands' object -/
def D789 (σ σ' : Hp) : Prop := Dn (fun x => x = 53) σ σ' ∧ ∀ i, i ≠ 7 → i ≠ 8 → i ≠ 9 → σ'.fi i 53 = σ.fi i 53
theorem D789.tr (h : D789 σ σ1) (k : D789 σ1 σ') : D789 σ σ' := ⟨h.1.tr k.1, fun i a b c => (k.2 i a b c).trans (h.2 i a b c)⟩
theorem D789.x {i : Nat} {v : Int32} (hi : i = 7 ∨ i = 8 ∨ i = 9) : D789 σ (sfi σ i 53 v) := ⟨Dn.xi rfl, fun j a b c => by rw [fi_sfi, if_neg (fun q => by omega)]⟩
theorem D789.rfl : D789 σ σ := ⟨⟨⟨Eq.refl _, Eq.refl _, Eq.refl _, Eq.refl _, Eq.refl _, Eq.refl _⟩, fun _ _ => ⟨fun _ => Eq.refl _, Eq.refl _⟩⟩, fun _ _ _ _ => Eq.refl _⟩
/-- the sort of a byte -/
def so (x : Int32) : Nat := if 97 ≤ x ∧ x ≤ 122 then 1 else if 48 ≤ x ∧ x ≤ 57 then 2 else 3
theorem sortOf_eq {x : Int32} : kX0_sortOf σ x = some (nI (so x)) := by
  unfold kX0_sortOf kX0_sortOf_14 so
  by_cases a : x < 97
  · rw [if_pos a, if_neg (fun q : 97 ≤ x ∧ x ≤ 122 => absurd q.1 (Int32.not_le.mpr a))]
    by_cases b : x < 48
    · rw [if_pos b, if_neg (fun q : 48 ≤ x ∧ x ≤ 57 => absurd q.1 (Int32.not_le.mpr b))]; rfl
    · rw [if_neg b]
      by_cases c : 57 < x
      · rw [if_pos c, if_neg (fun q : 48 ≤ x ∧ x ≤ 57 => absurd q.2 (Int32.not_le.mpr c))]; rfl
      · rw [if_neg c, if_pos ⟨Int32.not_lt.mp b, Int32.not_lt.mp c⟩]; rfl
  · rw [if_neg a]
    by_cases d : 122 < x
    · rw [if_pos d, if_neg (fun q : 97 ≤ x ∧ x ≤ 122 => absurd q.2 (Int32.not_le.mpr d))]
      have x57 : 57 < x := Int32.lt_trans (show (57 : Int32) < 122 by decide) d
      have n48 : ¬ x < 48 := fun y => absurd (Int32.lt_trans x57 y) (by decide)
      rw [if_neg n48, if_pos x57, if_neg (fun q : 48 ≤ x ∧ x ≤ 57 => absurd q.2 (Int32.not_le.mpr x57))]; rfl
    · rw [if_neg d, if_pos ⟨Int32.not_lt.mp a, Int32.not_lt.mp d⟩]; rfl
theorem so_le {x : Int32} : 1 ≤ so x ∧ so x ≤ 3 := by
  unfold so
  split
  · omega
  · split <;> omega
/-- the rest of a token -/
theorem c_goOn_97 {s : Nat} (hs : 1 ≤ s ∧ s ≤ 3) : ∀ (m F p : Nat) (σ : Hp), m < F → p + m = n → Kr f n σ → σ.fi 9 53 = nI p → σ.fi 7 53 = nI s → ∃ σ', kX0_goOn_97 F 53 σ = some σ' ∧ D789 σ σ' ∧ σ'.fi 7 53 = nI s ∧ σ'.fi 8 53 = σ.fi 8 53 ∧ σ'.fi 9 53 = nI (if s = 3 then p else rn f n (fun x => decide (so x = s)) m p)
  | m, 0, _, _, h, _, _, _, _ => absurd h (Nat.not_lt_zero m)
  | 0, F + 1, p, σ, _, hp, h, e, e7 => by
    have := h.2.1
    unfold kX0_goOn_97 rn
    rw [gfi_ok h.1.1, bind_s, e, gfi_ok h.1.1, bind_s, h.2.2.1, if_pos (nI_le (by omega) (by omega))]
    exact ⟨σ, rfl, D789.rfl, e7, rfl, by rw [ite_self]; exact e⟩
  | m + 1, F + 1, p, σ, hF, hp, h, e, e7 => by
    have := h.2.1
    unfold kX0_goOn_97 rn
    simp only [gfi_ok h.1.1, bind_s, e, h.2.2.1, e7]
    rw [if_neg (nI_ge (by omega) (by omega))]
    by_cases z : s = 3
    · rw [if_pos (by rw [z]; rfl), if_pos z]
      exact ⟨σ, rfl, D789.rfl, e7, rfl, e⟩
    · rw [if_neg (by rw [show (3 : Int32) = nI 3 from rfl, nI_eq (by omega) (by omega)]; exact z), gfr_ok h.1.1, bind_s, h.1.2.2.2, ald_ok h.1.2.1 (by rw [h.1.2.2.1]; omega) (by omega), bind_s, h.2.2.2 p (by omega), sortOf_eq, bind_s, if_neg z]
      have sl := so_le (x := f p)
      by_cases y : so (f p) = s
      · rw [if_pos (by rw [y]), if_pos ⟨by omega, decide_eq_true y⟩, nI_1, pfi_ok h.1.1, bind_s]
        obtain ⟨σ', a, b, c, d, g⟩ := c_goOn_97 hs m F (p + 1) (sfi σ 9 53 (nI (p + 1))) (by omega) (by omega) (h.x (by omega)) (by rw [fi_sfi, if_pos ⟨rfl, rfl⟩]) (by rw [fi_sfi, if_neg (by omega)]; exact e7)
        refine ⟨σ', a, (D789.x (Or.inr (Or.inr rfl))).tr b, c, by rw [d, fi_sfi, if_neg (by omega)], ?_⟩
        rw [g, if_neg z]
      · rw [if_neg (by rw [nI_eq (by omega) (by omega)]; exact y), if_neg (fun q => y (of_decide_eq_true q.2))]
        exact ⟨σ, rfl, D789.rfl, e7, rfl, e⟩
end GOON
