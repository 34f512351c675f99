section READ
variable {σ : Hp} {S : MS} {V : Vt} {π : Nat → Nat} {g : Gh} {E : Nat} {L : List Nat}
/-- a number is below zero or a natural one -/
theorem i_or (x : Int32) : x < 0 ∨ ∃ t, t < 2 ^ 31 ∧ x = nI t := by
  by_cases h : x < 0
  · exact Or.inl h
  · refine Or.inr ⟨x.toInt.toNat, ?_, ?_⟩
    · have := x.toInt_lt
      omega
    · have h1 : 0 ≤ x.toInt := by
        have := Int32.le_iff_toInt_le.mp (Int32.not_lt.mp h)
        simpa using this
      have h2 := x.toInt_lt
      apply Int32.toInt.inj
      rw [show (nI x.toInt.toNat).toInt = ((x.toInt.toNat : Nat) : Int) from Int32.toInt_ofNat_of_lt (by omega)]
      omega
/-- the survey's own fields -/
def Cy (σ : Hp) : Prop := σ.kd 33 = 18 ∧ σ.fr 800 33 = 3 ∧ σ.fr 801 33 = 19
theorem RT.re (rt : RT (S.1 0) V π) : RE (S.1 0) 2 V π := by
  refine ⟨rt.2.1, rt.1, fun p hp => ?_, fun p h1 h2 => ?_⟩
  · have rp := (rt.2.2.1 p hp).2
    have n := rp.1.1
    rw [List.length_map] at n
    refine ⟨n, rp.1.2, fun k e he => ?_⟩
    have ec := rp.2.1 k (reE V π (V.P p) e) (by rw [List.getElem?_map, he]; rfl)
    refine ⟨ec.1, ec.2.1, ec.2.2.1, fun hl => ?_⟩
    have l := ec.2.2.2
    unfold reE at l
    rw [if_neg (by rw [hl]; decide)] at l
    exact l
  · exact rt.2.2.2.1 p h1 h2
theorem JC.bv (J : JC σ S E L V π g) (cy : Cy σ) : Bv σ S V π := by
  obtain ⟨co, rt, hv, w, -⟩ := J
  have tv := co.ts.2.1
  have hd := co.1.1
  exact ⟨⟨⟨cy.1, hd.1.1, tv.1.2.1, hd.1.2.1, hd.2.1.1, tv.1.2.2.1, tv.1.2.2.2.1⟩, ⟨cy.2.1, cy.2.2, hd.2.2.1.1, tv.2.1.2.2.2.2.2⟩, hd.2.2.2.2.1, tv.2.2, hd.2.2.2.1.1⟩, rt.re, hv⟩
theorem Bv.h (h : Bv σ S V π) (x : Int32) : ∃ p : Bool, kX7_has σ 3 x = some (bI (p = true)) ∧ r_isThing S x = some (bI (p = true)) ∧ (p = true → ∃ t, x = nI t ∧ hs V t) := by
  rcases i_or x with q | ⟨t, t1, rfl⟩
  · exact ⟨false, kX7_has_neg q, r_isThing_neg q, fun y => (by cases y)⟩
  · refine ⟨decide (hs V t), ?_, ?_, fun y => ⟨t, rfl, of_decide_eq_true y⟩⟩
    · rw [h.1.has h.2.2 t1]; simp
    · rw [r_isThing_eq h.2.1.w h.2.2 t1]; simp
theorem Lk.s (lk : Lk σ) : gfr σ 21 1100 2 = some 3 := by rw [gfr_ok lk.1, lk.2.1]
theorem Lk.v (lk : Lk σ) : gfr σ 21 1106 2 = some 33 := by rw [gfr_ok lk.1, lk.2.2.2.2.2.2.2.1]
theorem Lk.f (lk : Lk σ) : gfr σ 21 1102 2 = some 19 := by rw [gfr_ok lk.1, lk.2.2.2.1]
theorem j_word (h : Bv σ S V π) (lk : Lk σ) (x : Int32) : ∃ r, kX11_word σ 2 x = some r ∧ r_word S x = some r := by
  unfold kX11_word r_word
  obtain ⟨p, p1, p2, p3⟩ := h.h x
  rw [lk.s, bind_s, h.1.k3, p1, bind_s, bind_s, p2, bind_s, bI_0', bI_0']
  cases p with
  | false => rw [if_pos (by decide), if_pos (by decide)]; exact ⟨_, rfl, rfl⟩
  | true =>
    obtain ⟨t, rfl, t2⟩ := p3 rfl
    have := t2.1
    rw [if_neg (by decide), if_neg (by decide), gfr_ok h.1.1.2.1, bind_s, h.1.2.1.2.2.1, ald_ok h.1.1.2.2.2.1 (by rw [h.1.1.2.2.2.2.1]; exact t2.1) (by omega), bind_s, h.1.2.2.1 t t2.1, r_wordOf_eq h.2.1.w t2.1, bind_s]
    exact ⟨_, rfl, rfl⟩
theorem j_far (h : Bv σ S V π) (lk : Lk σ) (x y : Int32) : ∃ r T, kX11_far σ 2 x y = some r ∧ r_far S x y = some (r, T) ∧ S2 S T := by
  unfold kX11_far r_far
  obtain ⟨p, p1, p2, p3⟩ := h.h x
  obtain ⟨q, q1, q2, q3⟩ := h.h y
  rw [lk.s, bind_s, h.1.k3, p1, bind_s, bind_s, p2, bind_s, bI_0', bI_0']
  cases p with
  | false => rw [if_pos (by decide), if_pos (by decide)]; exact ⟨_, _, rfl, rfl, S2.rfl⟩
  | true =>
    rw [if_neg (by decide), if_neg (by decide), h.1.k3, q1, bind_s, q2, bind_s, bI_0', bI_0']
    cases q with
    | false => rw [if_pos (by decide), if_pos (by decide)]; exact ⟨_, _, rfl, rfl, S2.rfl⟩
    | true =>
      obtain ⟨a, rfl, a2⟩ := p3 rfl
      obtain ⟨b, rfl, b2⟩ := q3 rfl
      obtain ⟨T, g1, g2⟩ := r_farOf_eq h.2.1.w h.2.2 a2 b2
      rw [if_neg (by decide), if_neg (by decide), lk.f, bind_s, h.1.k19, h.1.of a2 b2, bind_s, g1, bd2_s]
      exact ⟨_, T, rfl, rfl, g2⟩
theorem j_spaced2 (h : Bv σ S V π) (lk : Lk σ) (x : Int32) : ∃ r T, kX11_spaced σ 2 x = some r ∧ r_spaced S x = some (r, T) ∧ S2 S T := by
  obtain ⟨v, T, g1, g2, g3⟩ := j_spaced h x x
  unfold kX11_spaced r_spaced
  rw [lk.v, bind_s, h.1.k33, g1, bind_s, g2, bd2_s]
  exact ⟨_, T, rfl, rfl, g3⟩
theorem j_middle (h : Bv σ S V π) (lk : Lk σ) : ∃ r T, kX11_middle σ 2 = some r ∧ r_middle S = some (r, T) ∧ S2 S T := by
  obtain ⟨T, g2, g3⟩ := r_middle_eq h
  unfold kX11_middle
  rw [lk.v, bind_s, h.1.k33, c_middle h, bind_s, g2]
  exact ⟨_, T, rfl, rfl, g3⟩
theorem j_pair2 (h : Bv σ S V π) (lk : Lk σ) (x : Int32) : ∃ r T, kX11_pair σ 2 x = some r ∧ r_pair S x = some (r, T) ∧ S2 S T := by
  unfold kX11_pair r_pair kX11_pair_9 kX11_pair_23
  have key : x = 0 ∨ x = 1 ∨ (x ≠ 0 ∧ x ≠ 1) := by
    by_cases a : x = 0
    · exact Or.inl a
    · by_cases b : x = 1
      · exact Or.inr (Or.inl b)
      · exact Or.inr (Or.inr ⟨a, b⟩)
  rcases key with rfl | rfl | ⟨a, b⟩
  · obtain ⟨v, T, g1, g2, g3⟩ := j_pair h 0
    rw [if_pos rfl, lk.v, bind_s, if_neg (by decide), h.1.k33, g1, bind_s, r_isIn_b, bind_s, bI_t (by decide), if_neg (by decide), g2]
    exact ⟨_, T, rfl, rfl, g3⟩
  · obtain ⟨v, T, g1, g2, g3⟩ := j_pair h 1
    rw [if_neg (by decide), if_pos rfl, lk.v, bind_s, if_pos rfl, h.1.k33, g1, bind_s, r_isIn_b, bind_s, bI_t (by decide), if_neg (by decide), g2]
    exact ⟨_, T, rfl, rfl, g3⟩
  · have no : ¬ (0 ≤ x ∧ x ≤ 1) := fun y => by
      rcases i_or x with q | ⟨t, t1, rfl⟩
      · exact Int32.not_le.mpr q y.1
      · by_cases z : 2 ≤ t
        · exact nI_ge (show 1 < t by omega) (by omega) y.2
        · rcases (show t = 0 ∨ t = 1 by omega) with rfl | rfl
          · exact a rfl
          · exact b rfl
    rw [if_neg a, if_neg b, r_isIn_b, bind_s, bI_f no, if_pos rfl]
    exact ⟨_, _, rfl, rfl, S2.rfl⟩
end READ
