section PURE
/-- owners at the beginning -/
def own0 (x : Nat) : Nat := if 3 ≤ x ∧ x ≤ 13 then 3 else if 42 ≤ x ∧ x ≤ 52 then 42 else x
theorem p_sl30 : p_sl 30 < 3000000 := by decide +kernel
theorem pt_le {σ : Hp} {E a : Nat} : pt σ E [a] ≤ 5596 ∧ pv σ E [a] ≤ 41365 := by
  unfold pt pv
  show 4 * (1000 - 1) + (1600 - σ.ln E) ≤ 5596 ∧ 35 * (1000 - 1) + 4 * (1600 - σ.ln E) ≤ 41365
  omega
/-- both begin alike -/
theorem in_0 {σ : Hp} {S : MS} (c : Cz0 σ) (hn : σ.nx = 91) (hu : σ.us ≤ 4000000) (rt : RT (S.1 0) V00 (fun _ => 0)) (z : S.1 0 0 = 0 ∧ S.1 0 1 = 0) (r1 : ∀ x, x < 495854 → S.1 1 x = S.1 0 x) (nm : ∀ i, i < 62 → S.1 27 i = nmL.getD i 0) (f33 : S.2 33 = 0) (f44 : S.2 44 = 0) (f45 : S.2 45 = -1) (f52 : S.2 52 = 0) : In 0 σ S := by
  have nxc : NXc = 600002 := rfl
  have uxc : UXc = 7302250 := rfl
  obtain ⟨⟨a1, a2, a3, a4, a5, a6⟩, ⟨b1, b2⟩, ⟨c1, c2⟩, ⟨d1, d2, d3, d4, d5⟩, ⟨e1, e2⟩, ⟨k1, l1⟩, ⟨w1, w2⟩, p1, p2, p3⟩ := c
  have h0 : Hst (S.1 0) [] (fun _ => V00) := ⟨by show 0 ≤ 20; omega, z.1, 0, by omega, z.2, fun i s hs => by cases hs⟩
  have h1 : Hst (S.1 1) [] (fun _ => V00) := ⟨by show 0 ≤ 20; omega, by rw [r1 0 (by omega)]; exact z.1, 0, by omega, by rw [r1 1 (by omega)]; exact z.2, fun i s hs => by cases hs⟩
  have sn0 : Sn (S.1 0) V00 := ⟨fun _ => 0, gh0, rt, wf00, g00⟩
  have sn1 : Sn (S.1 1) V00 := sn0.cg2 vw00 (fun x h1 h2 => r1 x (by omega))
  have fp3 : ∀ x, Fp 3 13 [9] x → own0 x = 3 := fun x hx => by
    unfold Fp Ap at hx
    simp at hx
    unfold own0
    rw [if_pos (by omega)]
  have fp42 : ∀ x, Fp 42 52 [48] x → own0 x = 42 := fun x hx => by
    unfold Fp Ap at hx
    simp at hx
    unfold own0
    rw [if_neg (by omega), if_pos (by omega)]
  have pp : PPc own0 [] [] [] 1 1 1 (fun _ => 52) (fun _ => [48]) (fun _ => V00) σ := by
    refine ⟨p1, p2, ⟨fun h => absurd rfl h, fun h => absurd rfl h, fun h => absurd rfl h⟩, ⟨⟨List.nodup_nil, fun s hs => by cases hs⟩, ⟨List.nodup_nil, fun s hs => by cases hs⟩, ⟨List.nodup_nil, fun s hs => by cases hs⟩, by show 0 ≤ 40; omega⟩, fun s hs => ?_, fun s hs => by cases hs⟩
    rcases hs with rfl | hs
    · exact ⟨p3, fp42, vw00, by show 1 ≤ 780; omega⟩
    · cases hs
  have q3 := pt_le (σ := σ) (E := 13) (a := 9)
  have q42 := pt_le (σ := σ) (E := 52) (a := 48)
  refine ⟨13, [9], V00, fun _ => 0, gh0, own0, ⟨a1, a2, a3, by omega, a4, ⟨17, 18, a5⟩, a6⟩, ⟨rt, vw00, wf00, g00⟩, ⟨⟨b1, Or.inl ⟨b2, f33⟩⟩, c1, c2, ⟨d1, d2, d3, ⟨0, by omega, d4, f44, fun i hi => absurd hi (Nat.not_lt_zero i)⟩, by rw [d5, f45], nm⟩, ⟨e1, 0, by omega, e2, f52, fun i hi => absurd hi (Nat.not_lt_zero i)⟩⟩, ⟨fun x _ => rfl, fp3, k1, l1⟩, 1600 - σ.ln 1, _, _, ⟨w1, 1, [], w2, fun h => absurd rfl h, rfl⟩, ⟨[], [], [], 1, 1, 1, fun _ => 52, fun _ => [48], fun _ => V00, pp, ⟨h0, sn1, h1⟩, rfl, rfl⟩, ?_, ?_⟩
  · unfold rN
    show σ.nx + pt σ 13 [9] + (1600 - σ.ln 1) + ((pt σ 52 [48] + 0) + (1600 - σ.ln 1) + (1600 - σ.ln 1) + (1600 - σ.ln 1) + 5700 * (40 - 0)) + 200 ≤ NXc
    omega
  · unfold rU
    show σ.us + pv σ 13 [9] + 4 * (1600 - σ.ln 1) + ((pv σ 52 [48] + 0) + 4 * (1600 - σ.ln 1) + 4 * (1600 - σ.ln 1) + 4 * (1600 - σ.ln 1) + 42000 * (40 - 0)) + 20000 ≤ UXc
    omega
theorem Cz0.sh {σ : Hp} (c : Cz0 σ) : Cz0 (shM σ) := by
  obtain ⟨⟨a1, a2, a3, a4, a5, a6⟩, ⟨b1, b2⟩, ⟨c1, c2⟩, ⟨d1, d2, d3, d4, d5⟩, ⟨e1, e2⟩, ⟨k1, l1⟩, ⟨w1, w2⟩, p1, ⟨p2, p3, p4⟩, p5⟩ := c
  have d : Df (fun _ => False) σ (shM σ) := ⟨Nat.le_add_right _ _, fun _ _ => ⟨rfl, rfl⟩, fun _ _ _ => ⟨fun _ => rfl, fun _ => rfl, rfl, rfl⟩⟩
  have w : Wn (shM σ) := ⟨Nat.le_trans a3.1 (Nat.le_add_right _ _), fun a ha => Nat.lt_of_lt_of_le (a3.2 a ha) (Nat.le_add_right _ _)⟩
  exact ⟨⟨a1.df a3 d (fun _ _ z => z), a2.df a3 d (fun z => z), w, a4.df a3 d (fun _ _ _ z => z), a5.df a3 d (fun z => z), a6.df a3 d (fun z => z)⟩, ⟨b1.df a3 d (fun z => z), b2⟩, ⟨c1.df a3 d (fun z => z), c2.df c1 a3 d (fun z => z)⟩, ⟨d1, d2, d3, d4, d5⟩, ⟨e1, e2⟩, ⟨k1, l1⟩, ⟨w1, w2.df a3 d (fun z => z) (fun _ z => z)⟩, p1, ⟨p2.df a3 d (fun z => z) (fun _ z => z), p3.df a3 d (fun z => z) (fun _ z => z), p4.df a3 d (fun z => z) (fun _ z => z)⟩, p5.df a3 d (fun _ _ z => z)⟩
theorem step_in : LStep In := by
  refine ⟨fun n σ S ⟨E, L, V, π, g, own, h⟩ => h.lk.1, fun n σ S _ h => h, ls_put, ls_drop, ls_measure, ls_cap, ls_tell, ls_wipe, ls_build, ls_spell, ls_tight, ls_feed, ls_end, ls_perform, ls_fault, ls_reply, ls_undo, ls_is, ls_word, ls_thing, ls_letters, ls_apart, ls_far, ls_page, ls_entry, ls_leafOf, ls_within, ls_around, ls_near, ls_beside, ls_farthest, ls_cost, ls_scan, ls_broken, ls_breaks, ls_covers, ls_pair, ls_couple, ls_spaced, ls_lonely, ls_pivot, ls_letter, ls_middle, ls_groups, ls_chain, ls_chainLong, ls_mean, ls_image, ls_back, ls_steps⟩
/-- THE PURE STATEMENT holds -/
theorem pure_in : Pure In := by
  have nxc : NXc = 600002 := rfl
  have uxc : UXc = 7302250 := rfl
  have p30 := p_sl30
  obtain ⟨σ1, σ2, a, b, c, d, e⟩ := j_ctor
  obtain ⟨Z, h1, h2, h3, h4, h5, h6, h7, h8, h9⟩ := j_rinit
  refine ⟨step_in, σ1, σ2, Z, a, b, h1, by omega, by omega, in_0 e.sh ?_ ?_ h2 h3 h4 h5 h6 h7 h8 h9⟩
  · show σ2.nx + 31 = 91
    omega
  · show σ2.us + (53 + p_sl 30) ≤ 4000000
    omega
end PURE
