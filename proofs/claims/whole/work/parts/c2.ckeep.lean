section CKEEP
variable {σ σ' : Hp} {own : Nat → Nat} {K SS IS : List Nat} {EK ES EI : Nat} {eo : Nat → Nat} {lo : Nat → List Nat} {vo : Nat → Vt}
theorem sum_upd {f f' : Nat → Nat} {s : Nat} : ∀ (K : List Nat), K.Nodup → s ∈ K → (∀ x ∈ K, x ≠ s → f' x = f x) → (K.map f').sum + f s = (K.map f).sum + f' s
  | [], _, h, _ => by cases h
  | y :: K, nd, h, e => by
    obtain ⟨n1, n2⟩ := List.nodup_cons.mp nd
    rw [List.map_cons, List.map_cons, List.sum_cons, List.sum_cons]
    by_cases z : y = s
    · subst z
      have : K.map f' = K.map f := List.map_congr_left (fun x hx => e x (List.mem_cons_of_mem _ hx) (fun q => n1 (q ▸ hx)))
      rw [this]; omega
    · have hs : s ∈ K := (List.mem_cons.mp h).resolve_left (fun q => z q.symm)
      have := sum_upd K n2 hs (fun x hx => e x (List.mem_cons_of_mem _ hx))
      rw [e y (List.mem_cons_self ..) z]
      omega
theorem sum_le {f : Nat → Nat} {s : Nat} : ∀ (K : List Nat), s ∈ K → f s ≤ (K.map f).sum
  | [], h => by cases h
  | y :: K, h => by
    rw [List.map_cons, List.sum_cons]
    rcases List.mem_cons.mp h with rfl | h
    · omega
    · have := sum_le (f := f) K h; omega
theorem Lv.fl {l E i x : Nat} {v : Int32} {L : List Nat} (h : Lv σ l E L) (hi : i = 711 ∨ i = 712) : Lv (sfi σ i x v) l E L := by
  obtain ⟨⟨h1, h2, h3, h4⟩, h5, h6⟩ := h
  exact ⟨⟨h1, h2, by rw [fi_sfi, if_neg (by omega)]; exact h3, h4⟩, h5, h6⟩
theorem PC.fl {a i x : Nat} {v : Int32} {p : Pg} (h : PC σ a p) (hi : i = 711 ∨ i = 712) : PC (sfi σ i x v) a p := by
  obtain ⟨h1, ⟨a1, a2, a3, a4⟩, h3⟩ := h
  exact ⟨h1, ⟨by rw [fi_sfi, if_neg (by omega)]; exact a1, by rw [fi_sfi, if_neg (by omega)]; exact a2, by rw [fi_sfi, if_neg (by omega)]; exact a3, a4⟩, h3⟩
theorem St.fl {s E i x : Nat} {v : Int32} {L : List Nat} {V : Vt} (h : St σ s E L V) (hi : i = 711 ∨ i = 712) : St (sfi σ i x v) s E L V := by
  obtain ⟨⟨a1, a2, a3, ⟨b1, b2, b3, b4⟩, a5, a6⟩, ⟨c1, c2⟩, d1, d2, d3, d4, d5⟩ := h
  exact ⟨⟨a1, a2, a3, ⟨by rw [fi_sfi, if_neg (by omega)]; exact b1, by rw [fi_sfi, if_neg (by omega)]; exact b2, by rw [fi_sfi, if_neg (by omega)]; exact b3, by rw [fi_sfi, if_neg (by omega)]; exact b4⟩, a5, a6⟩, ⟨by rw [fi_sfi, if_neg (by omega)]; exact c1, by rw [fi_sfi, if_neg (by omega)]; exact c2⟩, d1.fl hi, d2, d3, d4, fun p a hp ha => (d5 p a hp ha).fl hi⟩
/-- what the past's doings touch -/
def Kf (own : Nat → Nat) (σ σ' : Hp) : Prop := Df (fun x => own x = 1 ∨ own x = 39 ∨ own x = 40 ∨ own x = 41 ∨ own x = 42 ∨ 60 ≤ own x) σ σ'
theorem Kf.tr {own' : Nat → Nat} {σ1 : Hp} (h : Kf own σ σ1) (g : Kf own' σ1 σ') (e : ∀ x, x < σ.nx → own' x = own x) : Kf own σ σ' := Df.trans h g (fun x hx q => by rw [e x hx] at q; exact q)
theorem PPc.k38 (h : PPc own K SS IS EK ES EI eo lo vo σ) : gfr σ 14 400 38 = some 39 ∧ gfr σ 14 401 38 = some 40 ∧ gfr σ 14 402 38 = some 41 ∧ gfr σ 14 403 38 = some 42 := by
  obtain ⟨⟨a1, a2, a3, a4, a5⟩, -⟩ := h
  exact ⟨by rw [gfr_ok a1, a2], by rw [gfr_ok a1, a3], by rw [gfr_ok a1, a4], by rw [gfr_ok a1, a5]⟩
theorem PPc.own1 (h : PPc own K SS IS EK ES EI eo lo vo σ) (ow : Own own) : (own EK = 39 ∨ EK = 1) ∧ (own ES = 40 ∨ ES = 1) ∧ (own EI = 41 ∨ EI = 1) ∧ own 1 = 1 ∧ own 38 = 38 ∧ own 39 = 39 ∧ own 40 = 40 ∧ own 41 = 41 := by
  obtain ⟨-, -, ⟨c1, c2, c3⟩, -⟩ := h
  have f : ∀ x, x < 60 → (x < 3 ∨ 13 < x) → (x < 42 ∨ 52 < x) → own x = x := fun x a b c => ow.f a b c
  refine ⟨?_, ?_, ?_, f 1 (by omega) (by omega) (by omega), f 38 (by omega) (by omega) (by omega), f 39 (by omega) (by omega) (by omega), f 40 (by omega) (by omega) (by omega), f 41 (by omega) (by omega) (by omega)⟩
  · by_cases z : EK = 1
    · exact Or.inr z
    · exact Or.inl (c1 z)
  · by_cases z : ES = 1
    · exact Or.inr z
    · exact Or.inl (c2 z)
  · by_cases z : EI = 1
    · exact Or.inr z
    · exact Or.inl (c3 z)
/-- a list of the past grows -/
theorem Lv.add2 {l E a : Nat} {L : List Nat} (h : Lv σ l E L) (wn : Wn σ) (ha : σ.kd a = 17) (hl : L.length < 1000) (hn : σ.nx + (1600 - σ.ln E) + 1 ≤ NXc) (hu : σ.us + 1600 ≤ UXc) : ∃ σ' E', kJx4a65c_add_9ea2d σ l a = some (1, σ') ∧ Lv σ' l E' (L ++ [a]) ∧ Wn σ' ∧ Df (fun x => x = l ∨ x = E) σ σ' ∧ (E' = E ∨ E' = σ.nx) ∧ σ'.nx + (1600 - σ'.ln E') ≤ σ.nx + (1600 - σ.ln E) ∧ σ'.us + 4 * (1600 - σ'.ln E') ≤ σ.us + 4 * (1600 - σ.ln E) := h.add wn (Or.inr ha) hl (by omega) hu
/-- the oldest step leaves -/
theorem c_shift {s0 : Nat} {rest : List Nat} (h : PPc own K (s0 :: rest) IS EK ES EI eo lo vo σ) (ow : Own own) (wn : Wn σ) (h20 : (s0 :: rest).length < 1000) : ∃ σ1, pfz σ 17 711 s0 0 = some (sfi σ 711 s0 0) ∧ kJx4a65c_remove_915e3 (sfi σ 711 s0 0) 40 0 = some (s0, σ1) ∧ PPc own K rest IS EK ES EI eo lo vo σ1 ∧ Wn σ1 ∧ Kf own σ σ1 ∧ σ1.nx = σ.nx ∧ σ1.us = σ.us ∧ σ1.ln = σ.ln := by
  obtain ⟨o1, o2, o3, o4, o5, o6, o7, o8⟩ := h.own1 ow
  obtain ⟨⟨a1, a2⟩, ⟨b1, b2, b3⟩, ⟨c1, c2, c3⟩, ⟨⟨d1, d2⟩, ⟨d3, d3'⟩, d4, d5⟩, e, f⟩ := h
  have s0K := d3' s0 (List.mem_cons_self ..)
  obtain ⟨n1, n2⟩ := List.nodup_cons.mp d3
  obtain ⟨e1, e2, e3, e4⟩ := e s0 (Or.inr s0K)
  have s60 := d2 s0 s0K
  have so : own s0 = s0 := e2 s0 (Or.inl ⟨Nat.le_refl _, by omega⟩)
  have wn0 : Wn (sfi σ 711 s0 0) := wn
  obtain ⟨σ1, g1, g2, g3⟩ := (b2.fl (i := 711) (x := s0) (v := 0) (Or.inl rfl)).rem wn0 (k := 0) (a := s0) rfl h20
  have d0 : Df (fun x => x = 40 ∨ x = ES) (sfi σ 711 s0 0) σ1 := g3.1
  have nA : ∀ x, x < σ.nx → own x ≠ 40 → own x ≠ 1 → ¬ (x = 40 ∨ x = ES) := fun x _ h1 h2 q => by
    rcases q with rfl | rfl
    · exact h1 o7
    · rcases o2 with q | q
      · exact h1 q
      · rw [q] at h2; exact h2 o4
  have el : ∀ {l E : Nat} {L : List Nat}, Lv σ l E L → E ≠ 1 → E < σ.nx := fun h hn => by
    rcases h.2.1 with q | q
    · exact absurd q.1 hn
    · exact wn.lt q.1
  have k38 := wn.lt a1
  have f38 := (d0.2.2 38 k38 (nA 38 k38 (by rw [o5]; decide) (by rw [o5]; decide))).2.1
  refine ⟨σ1, pfz_0 e1.ks, g1, ⟨⟨by rw [g3.2.2.2.1]; exact a1, by rw [f38, f38, f38, f38]; exact a2⟩, ⟨(b1.fl (Or.inl rfl)).df wn0 d0 (nA 39 (b1.nl wn) (by rw [o6]; decide) (by rw [o6]; decide)) (fun hn => nA EK (el b1 hn) (by rw [c1 hn]; decide) (by rw [c1 hn]; decide)), g2, (b3.fl (Or.inl rfl)).df wn0 d0 (nA 41 (b3.nl wn) (by rw [o8]; decide) (by rw [o8]; decide)) (fun hn => nA EI (el b3 hn) (by rw [c3 hn]; decide) (by rw [c3 hn]; decide))⟩, ⟨c1, c2, c3⟩, ⟨⟨d1, d2⟩, ⟨n2, fun s hs => d3' s (List.mem_cons_of_mem _ hs)⟩, d4, d5⟩, fun s hs => ?_, fun s hs => ?_⟩, g3.wn wn0, ?_, g3.2.1, g3.2.2.1, g3.2.2.2.2⟩
  · obtain ⟨u1, u2, u3, u4⟩ := e s hs
    have s6 : s = 42 ∨ 60 ≤ s := hs.imp id (d2 s)
    exact ⟨(u1.fl (Or.inl rfl)).df wn0 d0 (fun x hx => nA x (Fp.lt u1 wn hx) (by rw [u2 x hx]; omega) (by rw [u2 x hx]; omega)), u2, u3, u4⟩
  · obtain ⟨u1, u2, -⟩ := e s (Or.inr hs)
    have sn := wn.lt u1.ks
    have ss : own s = s := u2 s (Or.inl ⟨Nat.le_refl _, by omega⟩)
    have s6 := d2 s hs
    have q := (d0.2.2 s sn (nA s sn (by rw [ss]; omega) (by rw [ss]; omega))).1
    obtain ⟨v1, v2⟩ := f s hs
    rw [q, q, fi_sfi, fi_sfi, if_neg (show ¬ (712 = 711 ∧ s = s0) by omega)]
    refine ⟨?_, v2⟩
    by_cases z : s = s0
    · rw [if_pos ⟨rfl, z⟩, bI_f (by rw [z]; exact n1)]
    · rw [if_neg (fun y => z y.2), v1]
      by_cases y : s ∈ rest
      · rw [bI_t y, bI_t (List.mem_cons_of_mem _ y)]
      · rw [bI_f y, bI_f (fun v => by rcases List.mem_cons.mp v with v | v; exact z v; exact y v)]
  · refine (Df.xi (A := fun x => own x = 1 ∨ own x = 39 ∨ own x = 40 ∨ own x = 41 ∨ own x = 42 ∨ 60 ≤ own x) (by show _ ∨ _; rw [so]; omega)).trans d0 (fun x hx q => ?_)
    rcases q with rfl | rfl
    · exact Or.inr (Or.inr (Or.inl o7))
    · rcases o2 with q | q
      · exact Or.inr (Or.inr (Or.inl q))
      · rw [q]; exact Or.inl o4
end CKEEP
