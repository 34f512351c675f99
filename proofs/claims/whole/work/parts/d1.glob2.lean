section GLOB2
variable {σ σ' : Hp} {S S' : MS} {own own' : Nat → Nat} {A : Nat → Prop} {E E' : Nat} {L L' : List Nat} {V V' : Vt} {π π' : Nat → Nat} {g g' : Gh} {m n u : Nat}
/-- from call to call: what is written, and what is new of it -/
theorem Iv.go (h : Iv σ S E L V π g own) (d : Df A σ σ') (hA : ∀ x, x < σ.nx → A x → own x < 38 ∧ own x ≠ 2) (wn' : Wn σ') (co : St σ' 3 E' L' V' ∧ Tk σ' ∧ Fz σ' V' ∧ ∃ r q, Mo σ' r q) (b' : RT (S'.1 0) V' π' ∧ Vw V' ∧ Wf V' g' V'.U ∧ ∀ t, (g'.lo t).isSome = decide (hs V' t)) (si : SI σ' S') (cy : Cy σ') (sr : Sr σ') (rc : Rcm S S') (rp : Rp S S') (ho : ∀ x, x < σ.nx → own' x = own x) (o3 : ∀ x, Fp 3 E' L' x → own' x = 3) (wq : ∀ m, Wq own σ m → ∃ m', Wq own' σ' m' ∧ σ'.nx + pt σ' E' L' + m' ≤ σ.nx + pt σ E L + m ∧ σ'.us + pv σ' E' L' + 4 * m' ≤ σ.us + pv σ E L + 4 * m) : Iv σ' S' E' L' V' π' g' own' := by
  obtain ⟨⟨a1, a2, a3, a4, a5, a6, a7⟩, b, ⟨c1, c2, c3, c4, c5⟩, ⟨d1, d2, d3, d4⟩, m, n, u, w, p, r1, r2⟩ := h
  obtain ⟨m', w', q1, q2⟩ := wq m w
  have no : ∀ x, x < σ.nx → (38 ≤ own x ∨ own x = 2) → ¬ A x := fun x hx q z => by have := hA x hx z; omega
  have fx : ∀ x, x = 2 ∨ (53 ≤ x ∧ x < 60) → ¬ A x := fun x q => no x (by omega) (by rw [d1.f (by omega) (by omega) (by omega)]; omega)
  refine ⟨⟨co.1, co.2.1, wn', Nat.le_trans a4 d.1, co.2.2.1, co.2.2.2, a7.df a3 d (fx 2 (by omega))⟩, b', ⟨si, cy, sr, c4.df a3 d (fun x q1 q2 => fx x (by omega)) rc, c5.df a3 d (fun x q1 q2 => fx x (by omega)) rc⟩, ⟨fun x hx => by rw [ho x (by omega)]; exact d1 x hx, o3, ?_, ?_⟩, m', n, u, w', p.df d1 a3 d (fun x hx q => Or.inl (hA x hx q).1) ho rp, by omega, by omega⟩
  · rw [(d.2.1 1 (by omega)).1]; exact d3
  · rw [(d.2.1 1 (by omega)).2]; exact d4
/-- a change of the state, its distances and its tree -/
theorem Iv.kq (h : Iv σ S E L V π g own) (j : JC σ' S' E' L' V' π' g') (kq : Kq σ E L σ' E' L') (jq : Jq S S') : ∃ own', Iv σ' S' E' L' V' π' g' own' := by
  have h0 := id h
  obtain ⟨⟨a1, a2, a3, a4, a5, a6, a7⟩, b, ⟨c1, c2, c3, c4, c5⟩, ⟨d1, d2, d3, d4⟩, -⟩ := h
  obtain ⟨⟨j1, j2, ⟨j3, -⟩, j4, j5, -⟩, jb⟩ := j
  obtain ⟨d, f1, -, f2, f3⟩ := kq
  rw [Pn_pt, Pn_pt] at f2
  rw [Pu_pv, Pu_pv] at f3
  have ry := Ry.jq jq
  have ao : ∀ x, x < σ.nx → Fp 3 E L x ∨ (14 ≤ x ∧ x ≤ 26) → own x = 3 ∨ (14 ≤ own x ∧ own x ≤ 26) := fun x hx q => q.elim (fun q => Or.inl (d2 x q)) (fun q => Or.inr (by rw [d1.f (by omega) (by omega) (by omega)]; exact q))
  have fx : ∀ x, 27 ≤ x → x ≤ 37 → ¬ (Fp 3 E L x ∨ (14 ≤ x ∧ x ≤ 26)) := fun x q1 q2 z => by
    have := ao x (by omega) z
    rw [d1.f (by omega) (by omega) (by omega)] at this
    omega
  have ho : ∀ x, x < σ.nx → (fun x => if x < σ.nx then own x else 3) x = own x := fun x hx => if_pos hx
  refine ⟨fun x => if x < σ.nx then own x else 3, h0.go d (fun x hx q => by have := ao x hx q; omega) j3 ⟨j1, j2, j4, j5⟩ jb (c1.df a3 d (fun x q1 q2 => fx x (by omega) (by omega)) ry.rs) (c2.df a3 d (fx 33 (by omega) (by omega))) (c3.df c2 a3 d (fx 33 (by omega) (by omega))) ry.rc ry.rp ho (fun x hx => ?_) (fun m w => ⟨m, w.df d1 a3 d (fun x hx q => by have := ao x hx q; omega) ho, by omega, by omega⟩)⟩
  show (if x < σ.nx then own x else 3) = 3
  by_cases q : x < σ.nx
  · rw [if_pos q]; exact d2 x (f1 x q hx)
  · rw [if_neg q]
theorem Iv.jr {V1 : Vt} (h : Iv σ S E L V π g own) (j : Jr σ S E L V1 σ' S') : ∃ E' L' V' π' g' own', Iv σ' S' E' L' V' π' g' own' ∧ Sm V1 V' := by
  obtain ⟨E', L', V', π', g', jc, kq, jq, sm⟩ := j
  obtain ⟨own', i⟩ := h.kq jc kq jq
  exact ⟨E', L', V', π', g', own', i, sm⟩
/-- the surveys' cells -/
theorem Iv.sv (h : Iv σ S E L V π g own) (s : Sv σ σ') (r : Rk S S') : Iv σ' S' E L V π g own := by
  have h0 := id h
  obtain ⟨⟨a1, a2, a3, a4, a5, a6, a7⟩, b, ⟨c1, c2, c3, c4, c5⟩, ⟨d1, d2, d3, d4⟩, -⟩ := h
  have lo := h0.lo
  obtain ⟨⟨s1, s2, s3, s4, s5, s6⟩, s7, s8⟩ := s
  have d : Df (fun x => 33 ≤ x ∧ x ≤ 37) σ σ' := ⟨Nat.le_of_eq s5.symm, fun a _ => by rw [s1, s2]; exact ⟨rfl, rfl⟩, fun a _ q => ⟨fun i => s7 i a (by omega), fun i => by rw [s3], s8 a (by omega), by rw [s4]⟩⟩
  have ry := Ry.rk r
  have pe : pt σ' E L = pt σ E L := by unfold pt; rw [s2]
  have ve : pv σ' E L = pv σ E L := by unfold pv; rw [s2]
  obtain ⟨rr, q, mo⟩ := a6
  refine h0.go d (fun x hx q => by rw [d1.f (by omega) (by omega) (by omega)]; omega) (by unfold Wn; rw [s1, s5]; exact a3) ⟨a1.df a3 d (fun x hx z => by have := lo x hx; omega), a2.df a3 d (by omega), a5.df a3 d (fun x _ _ z => by omega), rr, q, mo.df a3 d (by omega)⟩ (by rw [r.r0]; exact b) (c1.df a3 d (fun x _ _ z => by omega) ry.rs) ?_ ?_ ry.rc ry.rp (fun _ _ => rfl) d2 (fun m w => ⟨m, w.df d1 a3 d (fun x hx q => by rw [d1.f (by omega) (by omega) (by omega)]; omega) (fun _ _ => rfl), by omega, by omega⟩)
  · unfold Cy; rw [s1, s3]; exact c2
  · unfold Sr; rw [s1, s2, s3]; exact c3
/-- the measures' cells -/
theorem Iv.mr (h : Iv σ S E L V π g own) (s : Mr σ σ') (mo : ∃ r q, Mo σ' r q) (r : Rk S S') : Iv σ' S' E L V π g own := by
  have h0 := id h
  obtain ⟨⟨a1, a2, a3, a4, a5, a6, a7⟩, b, ⟨c1, c2, c3, c4, c5⟩, ⟨d1, d2, d3, d4⟩, -⟩ := h
  have lo := h0.lo
  obtain ⟨⟨s1, s2, s3, s4, s5, s6⟩, s7, s8⟩ := s
  have d : Df (fun x => 14 ≤ x ∧ x ≤ 18) σ σ' := ⟨Nat.le_of_eq s5.symm, fun a _ => by rw [s1, s2]; exact ⟨rfl, rfl⟩, fun a _ q => ⟨fun i => by rw [s3], fun i => s8 i a (by omega), s7 a (by omega), by rw [s4]⟩⟩
  have ry := Ry.rk r
  have pe : pt σ' E L = pt σ E L := by unfold pt; rw [s2]
  have ve : pv σ' E L = pv σ E L := by unfold pv; rw [s2]
  exact h0.go d (fun x hx q => by rw [d1.f (by omega) (by omega) (by omega)]; omega) (by unfold Wn; rw [s1, s5]; exact a3) ⟨a1.df a3 d (fun x hx z => by have := lo x hx; omega), a2.df a3 d (by omega), a5.df a3 d (fun x _ _ z => by omega), mo⟩ (by rw [r.r0]; exact b) (c1.df a3 d (fun x _ _ z => by omega) ry.rs) (c2.df a3 d (by omega)) (c3.df c2 a3 d (by omega)) ry.rc ry.rp (fun _ _ => rfl) d2 (fun m w => ⟨m, w.df d1 a3 d (fun x hx q => by rw [d1.f (by omega) (by omega) (by omega)]; omega) (fun _ _ => rfl), by omega, by omega⟩)
/-- the walk -/
theorem Iv.wl (h : Iv σ S E L V π g own) : ∃ E8 O, Wl (σ.nx + (1600 - σ.ln E8) + 1) (σ.us + 4 * (1600 - σ.ln E8) + 1600) σ E L E8 O ∧ (E8 ≠ 1 → own E8 = 28) := by
  obtain ⟨-, -, -, ⟨d1, d2, -⟩, m, n, u, ⟨w1, E8, O, w2, w3, w4⟩, p, r1, r2⟩ := h
  refine ⟨E8, O, ⟨w1, w2, fun y hy => ?_, ⟨Nat.le_refl _, Nat.le_refl _⟩, by omega, by omega⟩, w3⟩
  have y3 := d2 y hy
  refine ⟨fun e => ?_, fun e => ?_⟩
  · rw [e, d1.f (by omega) (by omega) (by omega)] at y3; omega
  · by_cases z : E8 = 1
    · rw [e, z, d1.f (by omega) (by omega) (by omega)] at y3; omega
    · rw [e, w3 z] at y3; omega
theorem Iv.wk {E8 : Nat} {O : List Nat} (h : Iv σ S E L V π g own) (wl : Wl (σ.nx + (1600 - σ.ln E8) + 1) (σ.us + 4 * (1600 - σ.ln E8) + 1600) σ E L E8 O) (o8 : E8 ≠ 1 → own E8 = 28) (k : Wk (σ.nx + (1600 - σ.ln E8) + 1) (σ.us + 4 * (1600 - σ.ln E8) + 1600) V' σ E L E8 σ') (sm : Sm V V') (rt : RT (S'.1 0) V' π) (wf : Wf V' g V'.U) (ry : Ry S S') : ∃ own', Iv σ' S' E L V' π g own' := by
  have h0 := id h
  obtain ⟨⟨a1, a2, a3, a4, a5, ⟨rr, q, mo⟩, a7⟩, ⟨b1, b2, b3, b4⟩, ⟨c1, c2, c3, c4, c5⟩, ⟨d1, d2, d3, d4⟩, m, n, u, ⟨w1, F8, P, w2, w3, w4⟩, -⟩ := h
  obtain ⟨E8', O', st, wn', wl', d, he⟩ := k
  obtain ⟨k1, k2, k3, ⟨k4, k5⟩, -⟩ := wl'
  have ef : F8 = E8 := w2.1.2.1.symm.trans wl.2.1.1.2.1
  have ao : ∀ x, x < σ.nx → Fp 3 E L x ∨ x = 28 ∨ x = E8 → own x = 3 ∨ own x = 28 ∨ own x = 1 := fun x hx q => by
    rcases q with q | q | q
    · exact Or.inl (d2 x q)
    · rw [q, d1.f (by omega) (by omega) (by omega)]; omega
    · by_cases z : E8 = 1
      · rw [q, z, d1.f (by omega) (by omega) (by omega)]; omega
      · rw [q, o8 z]; omega
  have fx : ∀ x, 14 ≤ x → x ≤ 37 → x ≠ 28 → ¬ (Fp 3 E L x ∨ x = 28 ∨ x = E8) := fun x q1 q2 q3 z => by
    have := ao x (by omega) z
    rw [d1.f (by omega) (by omega) (by omega)] at this
    omega
  have ho : ∀ x, x < σ.nx → (fun x => if x < σ.nx then own x else 28) x = own x := fun x hx => if_pos hx
  have el : σ'.ln E = σ.ln E := (d.2.1 E (Fp.lt a1 a3 (Or.inr (Or.inl rfl)))).2
  have pe : pt σ' E L = pt σ E L := by unfold pt; rw [el]
  have ve : pv σ' E L = pv σ E L := by unfold pv; rw [el]
  refine ⟨fun x => if x < σ.nx then own x else 28, h0.go d (fun x hx q => by have := ao x hx q; omega) wn' ⟨st, a2.df a3 d (fx 23 (by omega) (by omega) (by omega)), (a5.df a3 d (fun x q1 q2 => fx x (by omega) (by omega) (by omega))).sm sm, rr, q, mo.df a3 d (fx 14 (by omega) (by omega) (by omega))⟩ ⟨rt, sm.vw b2, wf, fun t => ?_⟩ (c1.df a3 d (fun x q1 q2 => fx x (by omega) (by omega) (by omega)) ry.rs) (c2.df a3 d (fx 33 (by omega) (by omega) (by omega))) (c3.df c2 a3 d (fx 33 (by omega) (by omega) (by omega))) ry.rc ry.rp ho (fun x hx => ?_) (fun m w => ?_)⟩
  · rw [b4 t]
    by_cases y : hs V t
    · rw [decide_eq_true y, decide_eq_true ((sm.hh t).mpr y)]
    · rw [decide_eq_false y, decide_eq_false (fun v => y ((sm.hh t).mp v))]
  · show (if x < σ.nx then own x else 28) = 3
    rw [if_pos (Fp.lt a1 a3 hx)]; exact d2 x hx
  · obtain ⟨-, G8, Q, v2, v3, v4⟩ := w
    have eg : G8 = E8 := v2.1.2.1.symm.trans wl.2.1.1.2.1
    rw [eg] at v4
    refine ⟨1600 - σ'.ln E8', ⟨k1, E8', O', k2, fun hn => ?_, rfl⟩, by omega, by omega⟩
    show (if E8' < σ.nx then own E8' else 28) = 28
    rcases he with z | z
    · rw [z] at hn ⊢
      rw [if_pos (v2.enx a3 |> fun y => by rw [eg] at y; exact y)]
      exact o8 hn
    · rw [if_neg (by omega)]
/-- a search -/
theorem Iv.sd (h : Iv σ S E L V π g own) (s : Sd L σ S σ' S') : Iv σ' S' E L V π g own := by
  rcases s with ⟨e1, e2⟩ | ⟨C, ⟨pd, sp, lk, sj⟩, sf, mo, rz⟩
  · rw [e1, e2]; exact h
  have h0 := id h
  have lo := h0.lo
  obtain ⟨⟨a1, a2, a3, a4, a5, a6, a7⟩, b, ⟨c1, c2, c3, c4, c5⟩, ⟨d1, d2, d3, d4⟩, -⟩ := h
  have st := a1.sf lo sf
  obtain ⟨⟨s1, s2, s3, s4, s5⟩, s6, s7, s8⟩ := sf
  have d : Df (fun x => Fp 3 E L x ∨ (14 ≤ x ∧ x ≤ 18) ∨ (29 ≤ x ∧ x ≤ 32)) σ σ' := ⟨Nat.le_of_eq s4.symm, fun a _ => by rw [s1, s2]; exact ⟨rfl, rfl⟩, fun a _ q => ⟨fun i => s8 i a (fun z => q (by omega)) (Or.inr (Or.inr (fun z => q (Or.inl (Or.inr (Or.inr ⟨a, z, ⟨Nat.le_refl _, Nat.le_add_right _ _⟩⟩)))))), fun i => s6 i a (fun z => q (by omega)), s7 a (by by_cases z : 14 ≤ a ∧ a ≤ 18; exact absurd (Or.inr (Or.inl z)) q; omega) (by by_cases z : 29 ≤ a ∧ a ≤ 32; exact absurd (Or.inr (Or.inr z)) q; omega), by rw [s3]⟩⟩
  have ao : ∀ x, x < σ.nx → Fp 3 E L x ∨ (14 ≤ x ∧ x ≤ 18) ∨ (29 ≤ x ∧ x ≤ 32) → own x = 3 ∨ (14 ≤ own x ∧ own x ≤ 18) ∨ (29 ≤ own x ∧ own x ≤ 32) := fun x hx q => by
    rcases q with q | q
    · exact Or.inl (d2 x q)
    · rw [d1.f (by omega) (by omega) (by omega)]; omega
  have fx : ∀ x, (19 ≤ x ∧ x ≤ 28) ∨ (33 ≤ x ∧ x ≤ 37) → ¬ (Fp 3 E L x ∨ (14 ≤ x ∧ x ≤ 18) ∨ (29 ≤ x ∧ x ≤ 32)) := fun x q1 z => by
    have := ao x (by omega) z
    rw [d1.f (by omega) (by omega) (by omega)] at this
    omega
  have pe : pt σ' E L = pt σ E L := by unfold pt; rw [s2]
  have ve : pv σ' E L = pv σ E L := by unfold pv; rw [s2]
  have f29 : ∀ i, σ'.fr i 29 = σ.fr i 29 := fun i => s6 i 29 (by omega)
  refine h0.go d (fun x hx q => by have := ao x hx q; omega) (by unfold Wn; rw [s1, s4]; exact a3) ⟨st, a2.df a3 d (fx 23 (by omega)), a5.df a3 d (fun x _ _ => fx x (by omega)), mo⟩ (by rw [rz.1 0 (by omega)]; exact b) ⟨?_, Or.inr ⟨C, pd, sp, lk, sj⟩⟩ (c2.df a3 d (fx 33 (by omega))) (c3.df c2 a3 d (fx 33 (by omega))) rz.rc rz.rp (fun _ _ => rfl) d2 (fun m w => ⟨m, w.df d1 a3 d (fun x hx q => by have := ao x hx q; omega) (fun _ _ => rfl), by omega, by omega⟩)
  unfold Ck
  rw [s1, s2, f29, f29, f29, f29, f29, f29]
  exact c1.1
/-- both keep a step -/
theorem Iv.keep (h : Iv σ S E L V π g own) : ∃ σ' S' own', kX4_keep σ 38 3 = some σ' ∧ r_keep S = some S' ∧ Iv σ' S' E L V π g own' ∧ (∀ j, j ≠ 0 → S'.1 j = S.1 j) ∧ S'.2 = S.2 ∧ Kf own σ σ' := by
  have h0 := id h
  obtain ⟨⟨a1, a2, a3, a4, a5, ⟨rr, q, mo⟩, a7⟩, ⟨b1, b2, b3, b4⟩, ⟨c1, c2, c3, c4, c5⟩, ⟨d1, d2, d3, d4⟩, m, n, u, w, ⟨K, SS, IS, EK, ES, EI, eo, lo, vo, p1, p2, p3, p4⟩, r1, r2⟩ := h
  obtain ⟨σ', S', own', K', SS', EK', ES', eo', lo', vo', z1, z2, z3, z4, z5, z6, z7, z8, z9, z10, z11, z12⟩ := j_keep p1 p2 d1 a3 d3 d4 a4 a1 d2 b2 b3 b1 b4 (by omega) (by omega)
  have fx : ∀ x, x = 2 ∨ (14 ≤ x ∧ x ≤ 37) ∨ (53 ≤ x ∧ x < 60) → ¬ (own x = 1 ∨ own x = 39 ∨ own x = 40 ∨ own x = 41 ∨ own x = 42 ∨ 60 ≤ own x) := fun x q z => by
    rw [d1.f (by omega) (by omega) (by omega)] at z
    omega
  have d := z6
  unfold Kf at d
  have el : σ'.ln E = σ.ln E := (d.2.1 E (Fp.lt a1 a3 (Or.inr (Or.inl rfl)))).2
  have pe : pt σ' E L = pt σ E L := by unfold pt; rw [el]
  have ve : pv σ' E L = pv σ E L := by unfold pv; rw [el]
  have rc : Rcm S S' := ⟨fun j hj => z11 j (by omega), fun k _ => by rw [z12]⟩
  have rs : Rs S S' := ⟨z11 18 (by omega), fun k _ => by rw [z12]⟩
  have hU : V.U ≤ 780 := b3.u
  refine ⟨σ', S', own', z1, z2, ⟨⟨Kf.st3 a1 a3 d2 z6, a2.df a3 d (fx 23 (by omega)), z7, Nat.le_trans a4 d.1, a5.df a3 d (fun x _ _ => fx x (by omega)), ⟨rr, q, mo.df a3 d (fx 14 (by omega))⟩, a7.df a3 d (fx 2 (by omega))⟩, ⟨b1.cg b2 hU z10, b2, b3, b4⟩, ⟨c1.df a3 d (fun x _ _ => fx x (by omega)) rs, c2.df a3 d (fx 33 (by omega)), c3.df c2 a3 d (fx 33 (by omega)), c4.df a3 d (fun x _ _ => fx x (by omega)) rc, c5.df a3 d (fun x _ _ => fx x (by omega)) rc⟩, ⟨fun x hx => by rw [z5 x (by omega)]; exact d1 x hx, fun x hx => by rw [z5 x (Fp.lt a1 a3 hx)]; exact d2 x hx, ?_, ?_⟩, m, _, _, w.df d1 a3 d (fun x hx q => by omega) z5, ⟨K', SS', IS, EK', ES', EI, eo', lo', vo', z3, z4, rfl, rfl⟩, by omega, by omega⟩, z11, z12, z6⟩
  · rw [(d.2.1 1 (by omega)).1]; exact d3
  · rw [(d.2.1 1 (by omega)).2]; exact d4
end GLOB2
