section LINS
variable {σ : Hp} {l E : Nat} {L : List Nat}
/-- a list with one more at a place -/
def lin (L : List Nat) (k a : Nat) : List Nat := L.take k ++ a :: L.drop k
theorem lin_len {k a : Nat} (hk : k ≤ L.length) : (lin L k a).length = L.length + 1 := by
  unfold lin
  rw [List.length_append, List.length_take, List.length_cons, List.length_drop]
  omega
theorem lin_get {k a j : Nat} (hk : k ≤ L.length) : (lin L k a)[j]? = if j < k then L[j]? else if j = k then some a else L[j - 1]? := by
  unfold lin
  by_cases z : j < k
  · rw [if_pos z, List.getElem?_append_left (by rw [List.length_take]; omega), List.getElem?_take, if_pos z]
  · rw [if_neg z, List.getElem?_append_right (by rw [List.length_take]; omega), List.length_take, show min k L.length = k by omega]
    by_cases y : j = k
    · rw [if_pos y, y, Nat.sub_self]; rfl
    · rw [if_neg y, show j - k = (j - k - 1) + 1 by omega, List.getElem?_cons_succ, List.getElem?_drop, show k + (j - k - 1) = j - 1 by omega]
/-- add at a place -/
theorem Lv.ins (h : Lv σ l E L) (hw : Wn σ) {a k : Nat} (hk : k ≤ L.length) (ha : σ.kd a = 13 ∨ σ.kd a = 17) (hl : L.length < 1000) (hn : σ.nx + 1 ≤ NXc) (hu : σ.us + 1600 ≤ UXc) : ∃ σ' E', kJx4a65c_add_7a177 σ l (nI k) a = some σ' ∧ Lv σ' l E' (lin L k a) ∧ Wn σ' ∧ Df (fun x => x = l ∨ x = E) σ σ' ∧ (E' = E ∨ E' = σ.nx) ∧ σ'.nx + (1600 - σ'.ln E') ≤ σ.nx + (1600 - σ.ln E) ∧ σ'.us + 4 * (1600 - σ'.ln E') ≤ σ.us + 4 * (1600 - σ.ln E) := by
  obtain ⟨⟨h1, h2, h3, h4⟩, h5, h6⟩ := id h
  unfold kJx4a65c_add_7a177 kJx4a65c_rangeCheckForAdd_d00df
  rw [h.c, h.sz, bind_s, if_neg (nI_nlt (by omega) (by omega)), if_pos (nI_pos' (by omega)), bind_s, gfi_ok h1, bind_s, pfi_ok h1, bind_s]
  generalize hσ0 : sfi σ 1200 l _ = σ0
  have h0 : Lv σ0 l E L := by
    rw [← hσ0]
    exact ⟨⟨h1, h2, by rw [fi_sfi, if_neg (by omega)]; exact h3, h4⟩, h5, h6⟩
  have w0 : Wn σ0 := by rw [← hσ0]; exact hw
  have n0 : σ0.nx = σ.nx := by rw [← hσ0]; rfl
  have u0 : σ0.us = σ.us := by rw [← hσ0]; rfl
  have l0 : σ0.ln = σ.ln := by rw [← hσ0]; rfl
  have d0 : Df (fun x => x = l ∨ x = E) σ σ0 := by rw [← hσ0]; exact Df.xi (Or.inl rfl)
  rw [h0.sz, bind_s, h0.el, bind_s]
  have fin : ∀ (σ1 : Hp) (E1 : Nat), Lv σ1 l E1 L → L.length < σ1.ln E1 → Wn σ1 → Df (fun x => x = l ∨ x = E) σ σ1 → (E1 = E ∨ E1 = σ.nx) → σ1.nx + (1600 - σ1.ln E1) ≤ σ.nx + (1600 - σ.ln E) → σ1.us + 4 * (1600 - σ1.ln E1) ≤ σ.us + 4 * (1600 - σ.ln E) → ∃ σ' E', kJx4a65c_add_7a177_38 l (nI k) a (nI L.length) E1 σ1 = some σ' ∧ Lv σ' l E' (lin L k a) ∧ Wn σ' ∧ Df (fun x => x = l ∨ x = E) σ σ' ∧ (E' = E ∨ E' = σ.nx) ∧ σ'.nx + (1600 - σ'.ln E') ≤ σ.nx + (1600 - σ.ln E) ∧ σ'.us + 4 * (1600 - σ'.ln E') ≤ σ.us + 4 * (1600 - σ.ln E) := by
    intro σ1 E1 v hlt w1 d1 hE p1 p2
    obtain ⟨⟨f1, f2, f3, f4⟩, f5, f6⟩ := id v
    have kE1 : σ1.kd E1 = 3 ∧ E1 ≠ 1 ∧ 10 ≤ σ1.ln E1 ∧ σ1.ln E1 ≤ 1600 := by
      rcases f5 with q | q
      · rw [q.1, q.2.2.1] at hlt
        exact absurd hlt (Nat.not_lt_zero _)
      · exact ⟨q.1, q.2.2.2.2, q.2.2.1, q.2.2.2.1⟩
    have ka : σ1.kd a = σ.kd a := (d1.2.1 a (hw.2 a (by omega))).1
    unfold kJx4a65c_add_7a177_38
    rw [nI_1, pk_sub (by omega), cpR_ok kE1.1 kE1.1 (by omega) (by omega) (by omega) (by omega) (by omega), bind_s]
    generalize hc : va_cpy (σ1.rr E1) (σ1.rr E1) k (k + 1) (L.length - k) = cp
    rw [rst_ok (show (srw σ1 E1 cp).kd E1 = 3 from kE1.1) (show k < (srw σ1 E1 cp).ln E1 by show k < σ1.ln E1; omega) (by omega) (by show a = 0 ∨ (σ1.kd a = 13 ∨ σ1.kd a = 17); rw [ka]; exact Or.inr ha), bind_s, pfi_ok (show (srw (srw σ1 E1 cp) E1 _).kd l = 22 from f1), bind_s, nI_1]
    have lk := lin_len (a := a) hk
    refine ⟨_, E1, rfl, ⟨⟨f1, f2, by rw [fi_sfi, if_pos ⟨rfl, rfl⟩, lk], by rw [lk]; omega⟩, Or.inr ⟨kE1.1, by rw [lk]; show L.length + 1 ≤ σ1.ln E1; omega, kE1.2.2.1, kE1.2.2.2, kE1.2.1⟩, fun j b hj => ?_⟩, w1, d1.trans ((Df.xe (A := fun x => x = l ∨ x = E1) (Or.inr rfl)).tr ((Df.xe (A := fun x => x = l ∨ x = E1) (Or.inr rfl)).tr (Df.xi (Or.inl rfl)))) (fun x hx q => ?_), hE, p1, p2⟩
    · have hj2 := get_lt hj
      rw [lk] at hj2
      rw [lin_get hk] at hj
      rw [rr_sfi, rr_srw, rr_srw]
      show (if j = k then a else cp j) = b ∧ (σ1.kd b = 13 ∨ σ1.kd b = 17)
      by_cases y : j = k
      · rw [if_neg (by omega), if_pos y] at hj
        cases hj
        rw [if_pos y, ka]
        exact ⟨rfl, ha⟩
      · rw [if_neg y, ← hc]
        by_cases z : j < k
        · rw [if_pos z] at hj
          rw [pk_cpy_out (by omega)]
          exact f6 j b hj
        · rw [if_neg z, if_neg y] at hj
          rw [pk_cpy_in (by omega) (by omega), show k + (j - (k + 1)) = j - 1 by omega]
          exact f6 _ b hj
    · rcases q with q | q
      · exact Or.inl q
      · rcases hE with z | z
        · exact Or.inr (q.trans z)
        · omega
  rw [aln_ok h0.kE', bind_s]
  by_cases q : L.length = σ0.ln E
  · rw [if_pos (by rw [← q]), h0.c]
    obtain ⟨σ1, E1, g1, g2, g3, g4, g5, g6, g7, g8⟩ := h0.grow w0 q hl (by rw [n0]; exact hn) (by rw [u0]; exact hu)
    rw [g1, bd2_s]
    rw [n0, l0] at g7
    rw [u0, l0] at g8
    exact fin σ1 E1 g2 g3 g4 (d0.trans g5 (fun x _ q => Or.inl q)) (Or.inr (g6.trans n0)) g7 g8
  · have hle : L.length < σ0.ln E := by
      rcases h0.2.1 with z | z
      · rw [z.1, z.2.2.1, z.2.2.2] at q
        exact absurd rfl q
      · omega
    have hle2 : σ0.ln E ≤ 1600 := by
      rcases h0.2.1 with z | z
      · rw [z.1, z.2.2.1]; omega
      · exact z.2.2.2.1
    rw [if_neg (fun z => q ((nI_eq (by omega) (by omega)).mp z))]
    exact fin σ0 E h0 hle w0 d0 (Or.inl rfl) (by rw [n0, l0]; exact Nat.le_refl _) (by rw [u0, l0]; exact Nat.le_refl _)
end LINS
