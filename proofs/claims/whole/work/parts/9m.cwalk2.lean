section CWALK2
variable {σ : Hp} {E : Nat} {L : List Nat} {V : Vt} {E8 : Nat} {O : List Nat} {N U : Nat}
/-- the walk beside the state: its object 27, its list 28, its room -/
def Wl (N U : Nat) (σ : Hp) (E : Nat) (L : List Nat) (E8 : Nat) (O : List Nat) : Prop := (σ.kd 27 = 20 ∧ σ.fr 1000 27 = 3 ∧ σ.fr 1001 27 = 19 ∧ σ.fr 1002 27 = 28) ∧ Lv σ 28 E8 O ∧ (∀ y, Fp 3 E L y → y ≠ 28 ∧ y ≠ E8) ∧ (σ.nx + (1600 - σ.ln E8) + 1 ≤ N ∧ σ.us + 4 * (1600 - σ.ln E8) + 1600 ≤ U) ∧ N ≤ NXc ∧ U ≤ UXc
theorem Wl.w {i x : Nat} {v : Int32} (h : Wl N U σ E L E8 O) (hi : 306 ≤ i ∧ i ≤ 310) : Wl N U (sfi σ i x v) E L E8 O := ⟨h.1, h.2.1.w hi, h.2.2.1, h.2.2.2⟩
theorem Wl.ne (h : Wl N U σ E L E8 O) : E8 ≠ 27 ∧ E8 ≠ 28 := by
  have k := h.2.1.kE'
  exact ⟨fun e => by rw [e, h.1.1] at k; omega, fun e => by rw [e, h.2.1.1.1] at k; omega⟩
/-- one more page into the order -/
theorem Wl.ins (st : St σ 3 E L V) (wn : Wn σ) (h : Wl N U σ E L E8 O) {k a : Nat} (hk : k ≤ O.length) (ha : σ.kd a = 13) (hl : O.length < 1000) : ∃ σ' E8', kJx4a65c_add_7a177 σ 28 (nI k) a = some σ' ∧ St σ' 3 E L V ∧ Wn σ' ∧ Wl N U σ' E L E8' (lin O k a) ∧ Df (fun x => x = 28 ∨ x = E8) σ σ' ∧ (E8' = E8 ∨ E8' = σ.nx) := by
  obtain ⟨c, lv, hA, ⟨r1, r2⟩, r3, r4⟩ := id h
  obtain ⟨σ', E', g1, g2, g3, g4, g5, g6, g7⟩ := lv.ins wn hk (Or.inl ha) hl (by omega) (by omega)
  have st' : St σ' 3 E L V := st.df wn g4 (fun x hx q => by have := hA x hx; omega)
  have n27 := h.ne
  have l27 : 27 < σ.nx := wn.2 27 (by rw [c.1]; decide)
  have f27 := g4.2.2 27 l27 (fun q => by omega)
  refine ⟨σ', E', g1, st', g3, ⟨⟨?_, ?_, ?_, ?_⟩, g2, fun y hy => ?_, ⟨by omega, by omega⟩, r3, r4⟩, g4, g5⟩
  · rw [(g4.2.1 27 l27).1]; exact c.1
  · rw [f27.2.1]; exact c.2.1
  · rw [f27.2.1]; exact c.2.2.1
  · rw [f27.2.1]; exact c.2.2.2
  · have y1 := hA y hy
    have y2 := Fp.lt st wn hy
    exact ⟨y1.1, fun e => by rcases g5 with z | z <;> omega⟩
end CWALK2
