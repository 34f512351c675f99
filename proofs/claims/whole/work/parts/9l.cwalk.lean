section CWALK
variable {σ : Hp} {i x : Nat} {v : Int32}
/-- the walk's own fields of pages touch nothing else -/
theorem PC.w {a : Nat} {p : Pg} (h : PC σ a p) (hi : 306 ≤ i ∧ i ≤ 310) : PC (sfi σ i x v) a p := by
  obtain ⟨h1, ⟨a1, a2, a3, a4⟩, h3⟩ := h
  exact ⟨h1, ⟨by rw [fi_sfi, if_neg (by omega)]; exact a1, by rw [fi_sfi, if_neg (by omega)]; exact a2, by rw [fi_sfi, if_neg (by omega)]; exact a3, a4⟩, h3⟩
theorem Lv.w {l E : Nat} {L : List Nat} (h : Lv σ l E L) (hi : 306 ≤ i ∧ i ≤ 310) : Lv (sfi σ i x v) l E L := by
  obtain ⟨⟨h1, h2, h3, h4⟩, h5, h6⟩ := h
  exact ⟨⟨h1, h2, by rw [fi_sfi, if_neg (by omega)]; exact h3, h4⟩, h5, h6⟩
theorem St.w {s E : Nat} {L : List Nat} {V : Vt} (h : St σ s E L V) (hi : 306 ≤ i ∧ i ≤ 310) : St (sfi σ i x v) s E L V := by
  obtain ⟨⟨a1, a2, a3, ⟨b1, b2, b3, b4⟩, a5, a6⟩, ⟨c1, c2⟩, d1, d2, d3, d4, d5⟩ := h
  exact ⟨⟨a1, a2, a3, ⟨by rw [fi_sfi, if_neg (by omega)]; exact b1, by rw [fi_sfi, if_neg (by omega)]; exact b2, by rw [fi_sfi, if_neg (by omega)]; exact b3, by rw [fi_sfi, if_neg (by omega)]; exact b4⟩, a5, a6⟩, ⟨by rw [fi_sfi, if_neg (by omega)]; exact c1, by rw [fi_sfi, if_neg (by omega)]; exact c2⟩, d1.w hi, d2, d3, d4, fun p a hp ha => (d5 p a hp ha).w hi⟩
theorem Ts.w {E : Nat} {L : List Nat} {V : Vt} (h : Ts σ E L V) (hi : 306 ≤ i ∧ i ≤ 310) : Ts (sfi σ i x v) E L V := ⟨h.1.w hi, h.2.1, h.2.2.1, h.2.2.2.1, h.2.2.2.2.1, h.2.2.2.2.2.1, h.2.2.2.2.2.2⟩
/-- what a walk may change: the walk's fields of pages, and what a frame lets -/
def Wa (A : Nat → Prop) (σ σ' : Hp) : Prop := (σ.nx ≤ σ'.nx) ∧ ∀ y, y < σ.nx → σ'.kd y = σ.kd y ∧ σ'.ln y = σ.ln y ∧ (¬ A y → (∀ j, j < 306 ∨ 310 < j → σ'.fi j y = σ.fi j y) ∧ (∀ j, σ'.fr j y = σ.fr j y) ∧ σ'.ar y = σ.ar y ∧ σ'.rr y = σ.rr y)
theorem Wa.rfl {A : Nat → Prop} : Wa A σ σ := ⟨Nat.le_refl _, fun _ _ => ⟨Eq.refl _, Eq.refl _, fun _ => ⟨fun _ _ => Eq.refl _, fun _ => Eq.refl _, Eq.refl _, Eq.refl _⟩⟩⟩
theorem Wa.tr {A : Nat → Prop} {σ1 σ2 : Hp} (h : Wa A σ σ1) (g : Wa A σ1 σ2) : Wa A σ σ2 := ⟨Nat.le_trans h.1 g.1, fun y hy => by
  obtain ⟨a1, a2, a3⟩ := h.2 y hy
  obtain ⟨b1, b2, b3⟩ := g.2 y (by have := h.1; omega)
  refine ⟨b1.trans a1, b2.trans a2, fun nA => ?_⟩
  obtain ⟨c1, c2, c3, c4⟩ := a3 nA
  obtain ⟨d1, d2, d3, d4⟩ := b3 nA
  exact ⟨fun j hj => (d1 j hj).trans (c1 j hj), fun j => (d2 j).trans (c2 j), d3.trans c3, d4.trans c4⟩⟩
theorem Wa.w {A : Nat → Prop} (hi : 306 ≤ i ∧ i ≤ 310) : Wa A σ (sfi σ i x v) := ⟨Nat.le_refl _, fun y _ => ⟨Eq.refl _, Eq.refl _, fun _ => ⟨fun j hj => by rw [fi_sfi, if_neg (by omega)], fun _ => Eq.refl _, Eq.refl _, Eq.refl _⟩⟩⟩
end CWALK
