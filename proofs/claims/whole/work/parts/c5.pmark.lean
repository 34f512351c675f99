section PMARK
variable {σ σ' : Hp} {own : Nat → Nat} {K SS IS : List Nat} {EK ES EI : Nat} {eo : Nat → Nat} {lo : Nat → List Nat} {vo : Nat → Vt}
def bup (g : Nat → Bool) (s : Nat) (b : Bool) : Nat → Bool := fun x => if x = s then b else g x
theorem bup_s {g : Nat → Bool} {s : Nat} {b : Bool} : bup g s b s = b := if_pos rfl
theorem bup_n {g : Nat → Bool} {s x : Nat} {b : Bool} (h : x ≠ s) : bup g s b x = g x := if_neg h
/-- a mark S of a kept state -/
theorem PPg.mS {gS gI : Nat → Bool} {s : Nat} {b : Bool} (h : PPg own K SS IS EK ES EI eo lo vo gS gI σ) (ow : Own own) (hs : s ∈ K) : pfz σ 17 711 s (bI (b = true)) = some (sfi σ 711 s (bI (b = true))) ∧ PPg own K SS IS EK ES EI eo lo vo (bup gS s b) gI (sfi σ 711 s (bI (b = true))) ∧ Kf own σ (sfi σ 711 s (bI (b = true))) := by
  obtain ⟨a, ⟨b1, b2, b3⟩, c, d, e, f⟩ := h
  obtain ⟨e1, e2, -⟩ := e s (Or.inr hs)
  have so : own s = s := e2 s (Or.inl ⟨Nat.le_refl _, by omega⟩)
  have s6 := d.1.2 s hs
  refine ⟨?_, ⟨a, ⟨b1.fl (Or.inl rfl), b2.fl (Or.inl rfl), b3.fl (Or.inl rfl)⟩, c, d, fun x hx => ⟨(e x hx).1.fl (Or.inl rfl), (e x hx).2⟩, fun x hx => ?_⟩, Df.xi (by show _ ∨ _; rw [so]; omega)⟩
  · cases b
    · exact pfz_0 e1.ks
    · exact pfz_1 e1.ks
  · rw [fi_sfi, fi_sfi]
    by_cases z : x = s
    · subst z
      rw [if_pos ⟨rfl, rfl⟩, if_neg (by omega), bup_s]
      exact ⟨rfl, (f x hs).2⟩
    · rw [if_neg (fun y => z y.2), if_neg (fun y => z y.2)]
      rw [bup_n z]
      exact f x hx
/-- list 40 with another content -/
theorem PPg.lS {gS gI : Nat → Bool} {X' : List Nat} {XE' : Nat} (h : PPg own K SS IS EK ES EI eo lo vo gS gI σ) (ow : Own own) (wn : Wn σ) (d : Df (fun x => x = 40 ∨ x = ES) σ σ') (lv : Lv σ' 40 XE' X') (hE : XE' = ES ∨ XE' = σ.nx) (nd : X'.Nodup) (sub : ∀ s ∈ X', s ∈ K) : PPg (fun x => if x < σ.nx then own x else 40) K X' IS EK XE' EI eo lo vo gS gI σ' ∧ Kf own σ σ' := by
  obtain ⟨⟨a1, a2⟩, ⟨b1, b2, b3⟩, ⟨c1, c2, c3⟩, ⟨⟨d1, d2⟩, d3, d4, d5⟩, e, f⟩ := h
  have oL : own 40 = 40 := ow.f (by omega) (by omega) (by omega)
  have o1 : own 1 = 1 := ow.f (by omega) (by omega) (by omega)
  have ol : ∀ x, x < σ.nx → (if x < σ.nx then own x else 40) = own x := fun x hx => if_pos hx
  have nA : ∀ x, own x ≠ 40 → own x ≠ 1 → ¬ (x = 40 ∨ x = ES) := fun x h1 h2 q => by
    rcases q with q | q
    · exact h1 (by rw [q]; exact oL)
    · by_cases z : ES = 1
      · exact h2 (by rw [q, z]; exact o1)
      · exact h1 (by rw [q]; exact c2 z)
  have fx : ∀ x, 38 ≤ x → x ≤ 41 → own x = x := fun x h1 h2 => ow.f (by omega) (by omega) (by omega)
  have el : ∀ {l E : Nat} {L : List Nat}, Lv σ l E L → 38 ≤ l → l ≤ 41 → l ≠ 40 → (E ≠ 1 → own E = l) → Lv σ' l E L := fun h h1 h2 h4 h3 => h.df wn d (nA _ (by rw [fx _ h1 h2]; exact h4) (by rw [fx _ h1 h2]; omega)) (fun hn => nA _ (by rw [h3 hn]; exact h4) (by rw [h3 hn]; omega))
  have k38 := wn.lt a1
  have f38 := (d.2.2 38 k38 (nA 38 (by rw [fx 38 (by omega) (by omega)]; decide) (by rw [fx 38 (by omega) (by omega)]; decide))).2.1
  have hX : XE' ≠ 1 → (if XE' < σ.nx then own XE' else 40) = 40 := fun hn => by
    rcases hE with q | q
    · rw [q] at hn ⊢
      rw [ol _ (b2.En wn)]; exact c2 hn
    · rw [q]; exact if_neg (by omega)
  refine ⟨⟨⟨(d.2.1 38 k38).1.trans a1, by rw [f38, f38, f38, f38]; exact a2⟩, ⟨el b1 (by omega) (by omega) (by decide) c1, lv, el b3 (by omega) (by omega) (by decide) c3⟩, ⟨fun hn => (ol _ (b1.En wn)).trans (c1 hn), hX, fun hn => (ol _ (b3.En wn)).trans (c3 hn)⟩, ⟨⟨d1, d2⟩, ⟨nd, sub⟩, d4, d5⟩, fun x hx => ?_, fun x hx => ?_⟩, d.mono (fun x hx q => ?_)⟩
  · obtain ⟨u1, u2, u3, u4⟩ := e x hx
    have x6 : x = 42 ∨ 60 ≤ x := hx.imp id (d2 x)
    exact ⟨u1.df wn d (fun y hy => nA y (by rw [u2 y hy]; omega) (by rw [u2 y hy]; omega)), fun y hy => by show (if y < σ.nx then own y else 40) = x; rw [ol y (Fp.lt u1 wn hy)]; exact u2 y hy, u3, u4⟩
  · obtain ⟨u1, u2, -⟩ := e x (Or.inr hx)
    have sn := wn.lt u1.ks
    have ss : own x = x := u2 x (Or.inl ⟨Nat.le_refl _, by omega⟩)
    have x6 := d2 x hx
    have q := (d.2.2 x sn (nA x (by rw [ss]; omega) (by rw [ss]; omega))).1
    rw [q, q]
    exact f x hx
  · rcases q with q | q
    · rw [q, oL]; omega
    · by_cases z : ES = 1
      · rw [q, z]; exact Or.inl o1
      · rw [q, c2 z]; omega
/-- a mark I of a kept state -/
theorem PPg.mI {gS gI : Nat → Bool} {s : Nat} {b : Bool} (h : PPg own K SS IS EK ES EI eo lo vo gS gI σ) (ow : Own own) (hs : s ∈ K) : pfz σ 17 712 s (bI (b = true)) = some (sfi σ 712 s (bI (b = true))) ∧ PPg own K SS IS EK ES EI eo lo vo gS (bup gI s b) (sfi σ 712 s (bI (b = true))) ∧ Kf own σ (sfi σ 712 s (bI (b = true))) := by
  obtain ⟨a, ⟨b1, b2, b3⟩, c, d, e, f⟩ := h
  obtain ⟨e1, e2, -⟩ := e s (Or.inr hs)
  have so : own s = s := e2 s (Or.inl ⟨Nat.le_refl _, by omega⟩)
  have s6 := d.1.2 s hs
  refine ⟨?_, ⟨a, ⟨b1.fl (Or.inr rfl), b2.fl (Or.inr rfl), b3.fl (Or.inr rfl)⟩, c, d, fun x hx => ⟨(e x hx).1.fl (Or.inr rfl), (e x hx).2⟩, fun x hx => ?_⟩, Df.xi (by show _ ∨ _; rw [so]; omega)⟩
  · cases b
    · exact pfz_0 e1.ks
    · exact pfz_1 e1.ks
  · rw [fi_sfi, fi_sfi]
    by_cases z : x = s
    · subst z
      rw [if_neg (by omega), if_pos ⟨rfl, rfl⟩, bup_s]
      exact ⟨(f x hs).1, rfl⟩
    · rw [if_neg (fun y => z y.2), if_neg (fun y => z y.2)]
      rw [bup_n z]
      exact f x hx
/-- list 41 with another content -/
theorem PPg.lI {gS gI : Nat → Bool} {X' : List Nat} {XE' : Nat} (h : PPg own K SS IS EK ES EI eo lo vo gS gI σ) (ow : Own own) (wn : Wn σ) (d : Df (fun x => x = 41 ∨ x = EI) σ σ') (lv : Lv σ' 41 XE' X') (hE : XE' = EI ∨ XE' = σ.nx) (nd : X'.Nodup) (sub : ∀ s ∈ X', s ∈ K) : PPg (fun x => if x < σ.nx then own x else 41) K SS X' EK ES XE' eo lo vo gS gI σ' ∧ Kf own σ σ' := by
  obtain ⟨⟨a1, a2⟩, ⟨b1, b2, b3⟩, ⟨c1, c2, c3⟩, ⟨⟨d1, d2⟩, d3, d4, d5⟩, e, f⟩ := h
  have oL : own 41 = 41 := ow.f (by omega) (by omega) (by omega)
  have o1 : own 1 = 1 := ow.f (by omega) (by omega) (by omega)
  have ol : ∀ x, x < σ.nx → (if x < σ.nx then own x else 41) = own x := fun x hx => if_pos hx
  have nA : ∀ x, own x ≠ 41 → own x ≠ 1 → ¬ (x = 41 ∨ x = EI) := fun x h1 h2 q => by
    rcases q with q | q
    · exact h1 (by rw [q]; exact oL)
    · by_cases z : EI = 1
      · exact h2 (by rw [q, z]; exact o1)
      · exact h1 (by rw [q]; exact c3 z)
  have fx : ∀ x, 38 ≤ x → x ≤ 41 → own x = x := fun x h1 h2 => ow.f (by omega) (by omega) (by omega)
  have el : ∀ {l E : Nat} {L : List Nat}, Lv σ l E L → 38 ≤ l → l ≤ 41 → l ≠ 41 → (E ≠ 1 → own E = l) → Lv σ' l E L := fun h h1 h2 h4 h3 => h.df wn d (nA _ (by rw [fx _ h1 h2]; exact h4) (by rw [fx _ h1 h2]; omega)) (fun hn => nA _ (by rw [h3 hn]; exact h4) (by rw [h3 hn]; omega))
  have k38 := wn.lt a1
  have f38 := (d.2.2 38 k38 (nA 38 (by rw [fx 38 (by omega) (by omega)]; decide) (by rw [fx 38 (by omega) (by omega)]; decide))).2.1
  have hX : XE' ≠ 1 → (if XE' < σ.nx then own XE' else 41) = 41 := fun hn => by
    rcases hE with q | q
    · rw [q] at hn ⊢
      rw [ol _ (b3.En wn)]; exact c3 hn
    · rw [q]; exact if_neg (by omega)
  refine ⟨⟨⟨(d.2.1 38 k38).1.trans a1, by rw [f38, f38, f38, f38]; exact a2⟩, ⟨el b1 (by omega) (by omega) (by decide) c1, el b2 (by omega) (by omega) (by decide) c2, lv⟩, ⟨fun hn => (ol _ (b1.En wn)).trans (c1 hn), fun hn => (ol _ (b2.En wn)).trans (c2 hn), hX⟩, ⟨⟨d1, d2⟩, d3, ⟨nd, sub⟩, d5⟩, fun x hx => ?_, fun x hx => ?_⟩, d.mono (fun x hx q => ?_)⟩
  · obtain ⟨u1, u2, u3, u4⟩ := e x hx
    have x6 : x = 42 ∨ 60 ≤ x := hx.imp id (d2 x)
    exact ⟨u1.df wn d (fun y hy => nA y (by rw [u2 y hy]; omega) (by rw [u2 y hy]; omega)), fun y hy => by show (if y < σ.nx then own y else 41) = x; rw [ol y (Fp.lt u1 wn hy)]; exact u2 y hy, u3, u4⟩
  · obtain ⟨u1, u2, -⟩ := e x (Or.inr hx)
    have sn := wn.lt u1.ks
    have ss : own x = x := u2 x (Or.inl ⟨Nat.le_refl _, by omega⟩)
    have x6 := d2 x hx
    have q := (d.2.2 x sn (nA x (by rw [ss]; omega) (by rw [ss]; omega))).1
    rw [q, q]
    exact f x hx
  · rcases q with q | q
    · rw [q, oL]; omega
    · by_cases z : EI = 1
      · rw [q, z]; exact Or.inl o1
      · rw [q, c3 z]; omega
end PMARK
