section BACKS
variable {σ σ' σ1 σ2 : Hp} {S S' : MS} {own own' own1 own2 : Nat → Nat} {A : Nat → Prop} {E E' E1 : Nat} {L L' L1 : List Nat} {V V' V1 : Vt} {π π' : Nat → Nat} {g g' : Gh} {m n u : Nat} {K SS IS : List Nat} {EK ES EI : Nat} {eo : Nat → Nat} {lo : Nat → List Nat} {vo : Nat → Vt}
/-- the past changes, and with it the state and its distances -/
def A0 (own : Nat → Nat) (x : Nat) : Prop := own x = 1 ∨ own x = 3 ∨ (14 ≤ own x ∧ own x ≤ 26) ∨ (39 ≤ own x ∧ own x ≤ 42) ∨ 60 ≤ own x
theorem Iv.mk2 (h : Iv σ S E L V π g own) (w : Wq own σ m) (d : Df (A0 own) σ σ') (wn' : Wn σ') (co : St σ' 3 E' L' V' ∧ Tk σ' ∧ Fz σ' V' ∧ ∃ r q, Mo σ' r q) (b' : RT (S'.1 0) V' π' ∧ Vw V' ∧ Wf V' g' V'.U ∧ ∀ t, (g'.lo t).isSome = decide (hs V' t)) (rc : Rcm S S') (rs : Rs S S') (ho : ∀ x, x < σ.nx → own' x = own x) (o3 : ∀ x, Fp 3 E' L' x → own' x = 3) (pq : PQ own' σ' S' n u) (q1 : σ'.nx + pt σ' E' L' + m + n + 200 ≤ NXc) (q2 : σ'.us + pv σ' E' L' + 4 * m + u + 20000 ≤ UXc) : Iv σ' S' E' L' V' π' g' own' := by
  obtain ⟨⟨a1, a2, a3, a4, a5, a6, a7⟩, b, ⟨c1, c2, c3, c4, c5⟩, ⟨d1, d2, d3, d4⟩, -⟩ := h
  have fx : ∀ x, x = 2 ∨ (27 ≤ x ∧ x ≤ 37) ∨ (53 ≤ x ∧ x < 60) → ¬ A0 own x := fun x q z => by
    unfold A0 at z
    rw [d1.f (by omega) (by omega) (by omega)] at z
    omega
  refine ⟨⟨co.1, co.2.1, wn', Nat.le_trans a4 d.1, co.2.2.1, co.2.2.2, a7.df a3 d (fx 2 (by omega))⟩, b', ⟨c1.df a3 d (fun x _ _ => fx x (by omega)) rs, c2.df a3 d (fx 33 (by omega)), c3.df c2 a3 d (fx 33 (by omega)), c4.df a3 d (fun x _ _ => fx x (by omega)) rc, c5.df a3 d (fun x _ _ => fx x (by omega)) rc⟩, ⟨fun x hx => by rw [ho x (by omega)]; exact d1 x hx, o3, ?_, ?_⟩, m, n, u, w.df d1 a3 d (fun x _ q => by unfold A0 at q; omega) ho, pq, q1, q2⟩
  · rw [(d.2.1 1 (by omega)).1]; exact d3
  · rw [(d.2.1 1 (by omega)).2]; exact d4
theorem Iv.put (h : Iv σ S E L V π g own) (w : Wq own σ m) (d1 : Df (Fp 3 E L) σ σ1) (o1 : ∀ x, x < σ.nx → own1 x = own x) (d2 : Kf own1 σ1 σ2) (o2 : ∀ x, x < σ1.nx → own2 x = own1 x) (wn2 : Wn σ2) (st : St σ2 3 E1 L1 V1) (o3 : ∀ x, Fp 3 E1 L1 x → own2 x = 3) (hv1 : Vw V1) (rt : RT (S'.1 0) V1 π') (wf : Wf V1 g' V1.U) (hlo : ∀ t, (g'.lo t).isSome = decide (hs V1 t)) (rc : Rcm S S') (rs : Rs S S') (p2 : PPc own2 K SS IS EK ES EI eo lo vo σ2) (p3 : PPr SS IS vo S') (q1 : σ2.nx + pt σ2 E1 L1 + m + rN σ2 K EK ES EI eo lo + 200 ≤ NXc) (q2 : σ2.us + pv σ2 E1 L1 + 4 * m + rU σ2 K EK ES EI eo lo + 20000 ≤ UXc) : ∃ σ3, kX1_follow σ2 19 3 = some σ3 ∧ Iv σ3 S' E1 L1 V1 π' g' own2 ∧ Lk σ2 ∧ σ2.kd 19 = 11 := by
  have h0 := id h
  obtain ⟨⟨a1, a2, a3, a4, a5, ⟨rr, q, mo⟩, a7⟩, b, -, ⟨c1, c2, c3, c4⟩, -⟩ := h
  have n1 := d1.1
  have n2 := d2.1
  have oo : ∀ x, x < σ.nx → own2 x = own x := fun x hx => by rw [o2 x (by omega), o1 x hx]
  have ow2 : Own own2 := fun x hx => by rw [oo x (by omega)]; exact c1 x hx
  have D2 : Df (fun x => Fp 3 E L x ∨ own1 x = 1 ∨ (39 ≤ own1 x ∧ own1 x ≤ 42) ∨ 60 ≤ own1 x) σ σ2 := (d1.mono (fun x _ q => Or.inl q)).tr (Df.mono d2 (fun x _ q => Or.inr (by omega)))
  have fx : ∀ x, x = 2 ∨ (14 ≤ x ∧ x ≤ 37) → ¬ (Fp 3 E L x ∨ own1 x = 1 ∨ (39 ≤ own1 x ∧ own1 x ≤ 42) ∨ 60 ≤ own1 x) := fun x q z => by
    have e := c1.f (show x < 60 by omega) (by omega) (by omega)
    rcases z with z | z
    · have := c2 x z
      omega
    · rw [o1 x (by omega), e] at z
      omega
  have lo1 : Lo E1 L1 := fun x hx => by
    have z := o3 x hx
    by_cases q : x < 60
    · rw [ow2 x q] at z
      by_cases y : 3 ≤ x ∧ x ≤ 13
      · omega
      · rw [if_neg y] at z
        split at z <;> omega
    · omega
  have co : Co σ2 E1 L1 V1 V := ⟨st, a2.df a3 D2 (fx 23 (by omega)), ⟨wn2, lo1, by omega, by rw [Pn_pt]; omega, by rw [Pu_pv]; omega⟩, a5.df a3 D2 (fun x _ _ => fx x (by omega)), ⟨rr, q, mo.df a3 D2 (fx 14 (by omega))⟩, a7.df a3 D2 (fx 2 (by omega))⟩
  obtain ⟨σ3, f1, ⟨s1, s2, ⟨s3, -⟩, s4, s5, -⟩, ⟨f2, -, -, f3, f4⟩⟩ := co.follow b.2.1 hv1
  rw [Pn_pt, Pn_pt] at f3
  rw [Pu_pv, Pu_pv] at f4
  have ao : ∀ x, x < σ2.nx → Fp 3 E1 L1 x ∨ (14 ≤ x ∧ x ≤ 26) → own2 x = 3 ∨ (14 ≤ own2 x ∧ own2 x ≤ 26) := fun x hx q => q.elim (fun q => Or.inl (o3 x q)) (fun q => Or.inr (by rw [ow2.f (by omega) (by omega) (by omega)]; exact q))
  obtain ⟨r1, r2, r3, r4, r5⟩ := rN_cg p2 wn2 f2
  have D3 : Df (A0 own) σ σ3 := by
    refine Df.trans (A := A0 own) (D2.mono (fun x hx q => ?_)) f2 (fun x hx q => ?_)
    · unfold A0
      rcases q with q | q
      · exact Or.inr (Or.inl (c2 x q))
      · rw [o1 x hx] at q; omega
    · have := ao x (by omega) q
      rw [oo x hx] at this
      unfold A0
      omega
  refine ⟨σ3, f1, h0.mk2 w D3 s3 ⟨s1, s2, s4, s5⟩ ⟨rt, hv1, wf, hlo⟩ rc rs oo o3 ⟨K, SS, IS, EK, ES, EI, eo, lo, vo, p2.df ow2 wn2 f2 (fun x hx q => Or.inl (by have := ao x hx q; omega)) (fun _ _ => rfl), p3, rfl, rfl⟩ ?_ ?_, co.2.2.2.2.2, co.2.2.2.1.1.1.1⟩
  · have : rN σ3 K EK ES EI eo lo = rN σ2 K EK ES EI eo lo := by unfold rN; rw [r1, r3, r4, r5]
    omega
  · have : rU σ3 K EK ES EI eo lo = rU σ2 K EK ES EI eo lo := by unfold rU; rw [r2, r3, r4, r5]
    omega
theorem Iv.steps (h : Iv σ S E L V π g own) : kX4_countSteps σ 38 = some (S.1 0 0) := by
  obtain ⟨-, -, -, -, m, n', u, w, ⟨K, SS, IS, EK, ES, EI, eo, lo, vo, p1, p2, p3, p4⟩, r1, r2⟩ := h
  unfold kX4_countSteps
  simp only [gfr_ok p1.1.1, p1.1.2.2.1, bind_s, ckd_ok p1.2.1.2.1.1.1, p1.2.1.2.1.size, p2.1.2.1]
theorem ls_image : LS_image In := fun n σ S _ ⟨E, L, V, π, g, own, h⟩ => by
  have h0 := id h
  obtain ⟨⟨a1, a2, a3, a4, a5, ⟨rr, q, mo⟩, a7⟩, ⟨b1, b2, b3, b4⟩, -, ⟨d1, d2, d3, d4⟩, m, n', u, w, ⟨K, SS, IS, EK, ES, EI, eo, lo, vo, p1, p2, p3, p4⟩, r1, r2⟩ := h
  obtain ⟨σ', own', EI', eo', lo', vo', z1, z2, z3, z4, z5, z6, z7, z8, z9⟩ := c_image p1 d1 a3 a4 a1 d2 b2 b3.u p2.1.1 (by omega) (by omega)
  obtain ⟨T', t1, t2, t3, t4⟩ := r_copy_eq (S := S) (a := 0) (b := 1) (Or.inl ⟨rfl, rfl⟩)
  have d := z6
  unfold Kf at d
  have fx : ∀ x, (14 ≤ x ∧ x ≤ 26) → ¬ (own x = 1 ∨ own x = 39 ∨ own x = 40 ∨ own x = 41 ∨ own x = 42 ∨ 60 ≤ own x) := fun x q z => by
    rw [d1.f (by omega) (by omega) (by omega)] at z
    omega
  have el : σ'.ln E = σ.ln E := (d.2.1 E (Fp.lt a1 a3 (Or.inr (Or.inl rfl)))).2
  have pe : pt σ' E L = pt σ E L := by unfold pt; rw [el]
  have ve : pv σ' E L = pv σ E L := by unfold pv; rw [el]
  have e0 : T'.1 0 = S.1 0 := t3 0 (by omega)
  have k60 := p1.2.2.2.1.1.2
  have ssk := p1.2.2.2.1.2.1.2
  have vS : ∀ s ∈ SS, vo' s = vo s := fun s hs => z4 s (by have := k60 s (ssk s hs); omega)
  have hS : Hst (S.1 0) SS vo' := hst_vo p2.1 vS
  have hSv : ∀ s ∈ SS, Vw (vo' s) := fun s hs => by rw [vS s hs]; exact (p1.2.2.2.2.1 s (Or.inr (ssk s hs))).2.2.1
  have pr : PPr SS SS vo' T' := by
    refine ⟨by rw [e0]; exact hS, ?_, hst_cg hS hSv t2⟩
    rw [z3]
    exact Sn.cg2 (f := S.1 0) ⟨π, g, b1, b3, b4⟩ b2 (fun x _ hx => t2 x (by omega))
  have i : Iv σ' T' E L V π g own' := h0.mk2 w (d.mono (fun x _ q => by unfold A0; omega)) z7 ⟨Kf.st3 a1 a3 d2 z6, a2.df a3 d (fx 23 (by omega)), a5.df a3 d (fun x _ _ => fx x (by omega)), rr, q, mo.df a3 d (fx 14 (by omega))⟩ (by rw [e0]; exact ⟨b1, b2, b3, b4⟩) ⟨fun j hj => t3 j (by omega), fun k _ => by rw [t4]⟩ ⟨t3 18 (by omega), fun k _ => by rw [t4]⟩ z5 (fun x hx => by rw [z5 x (Fp.lt a1 a3 hx)]; exact d2 x hx) ⟨K, SS, SS, EK, ES, EI', eo', lo', vo', z2, pr, rfl, rfl⟩ (by omega) (by omega)
  refine ⟨nI (cn V), σ', T', ?_, ?_, i.in⟩
  · unfold kX11_image
    rw [h0.lk.f7, bind_s, h0.lk.f0, bind_s, ckd_ok h0.k38, z1, bind_s, i.lk.f0, bind_s, gfi_ok i.1.1.ks, bind_s, i.c701]
  · unfold r_image
    have t1 : r_copy S 0 1 = some T' := t1
    rw [t1, bind_s, r_things_eq i.2.1.1.1 b2, bind_s]
theorem ls_back : LS_back In := fun n σ S _ ⟨E, L, V, π, g, own, h⟩ => by
  have h0 := id h
  obtain ⟨⟨a1, a2, a3, a4, a5, -, a7⟩, -, -, ⟨d1, d2, d3, d4⟩, m, n', u, w, ⟨K, SS, IS, EK, ES, EI, eo, lo, vo, p1, p2, p3, p4⟩, r1, r2⟩ := h
  obtain ⟨σ1, E1, L1, x1, x2, x3, x4, x5, x6, x7, x8, x9⟩ := c_put3 (s := 42) p1 d1 a3 a1 d2 (Or.inl rfl) (by rw [Pn_pt]; omega) (by rw [Pu_pv]; omega)
  rw [Pn_pt, Pn_pt] at x7
  rw [Pu_pv, Pu_pv] at x8
  obtain ⟨rc1, rc2, rc3, rc4, rc5⟩ := rN_cg p1 a3 x5
  have n1 : rN σ1 K EK ES EI eo lo = rN σ K EK ES EI eo lo := by unfold rN; rw [rc1, rc3, rc4, rc5]
  have n2 : rU σ1 K EK ES EI eo lo = rU σ K EK ES EI eo lo := by unfold rU; rw [rc2, rc3, rc4, rc5]
  have o1 : ∀ x, x < σ.nx → (fun x => if x < σ.nx then own x else 3) x = own x := fun x hx => if_pos hx
  have ow1 : Own (fun x => if x < σ.nx then own x else 3) := fun x hx => by rw [o1 x (by omega)]; exact d1 x hx
  have nx1 := x5.1
  obtain ⟨σ2, own2, ES', y1, y2, y3, y4, y5, y6, y7⟩ := c_back x3 ow1 x6 (by omega) p2.2.2.1 (by omega) (by omega)
  obtain ⟨T', t1, t2, t3, t4⟩ := r_copy_eq (S := S) (a := 1) (b := 0) (Or.inr ⟨rfl, rfl⟩)
  have e1 : T'.1 1 = S.1 1 := t3 1 (by omega)
  obtain ⟨-, -, v42, u42⟩ := p1.2.2.2.2.1 42 (Or.inl rfl)
  obtain ⟨π', g', s1, s2, s3⟩ := p2.2.1
  have isk := p1.2.2.2.1.2.2.1.2
  have pr : PPr IS IS vo T' := ⟨hst_cg p2.2.2 (fun s hs => (p1.2.2.2.2.1 s (Or.inr (isk s hs))).2.2.1) t2, by rw [e1]; exact p2.2.1, by rw [e1]; exact p2.2.2⟩
  have dd := y4
  unfold Kf at dd
  have elE : σ2.ln E1 = σ1.ln E1 := (dd.2.1 E1 (Fp.lt x2 x6 (Or.inr (Or.inl rfl)))).2
  have pe : pt σ2 E1 L1 = pt σ1 E1 L1 := by unfold pt; rw [elE]
  have ve : pv σ2 E1 L1 = pv σ1 E1 L1 := by unfold pv; rw [elE]
  obtain ⟨σ3, f1, i, f3, f4⟩ := h0.put w x5 o1 y4 y3 y5 (Kf.st3 x2 x6 x4 y4) (fun x hx => by rw [y3 x (Fp.lt x2 x6 hx)]; exact x4 x hx) v42 (s1.cg v42 u42 (fun x _ hx => t2 x (by omega))) s2 s3 ⟨fun j hj => t3 j (by omega), fun k _ => by rw [t4]⟩ ⟨t3 18 (by omega), fun k _ => by rw [t4]⟩ y2 pr (by omega) (by omega)
  refine ⟨nI (cn (vo 42)), σ3, T', ?_, ?_, i.in⟩
  · unfold kX11_back kX4_goBack
    rw [h0.lk.f7, bind_s, h0.lk.f0, bind_s, ckd_ok h0.k38, gfr_ok h0.k38, bind_s, p1.1.2.2.2.2, ckd_ok a1.ks, x1, bind_s, y1, bind_s, f3.f2, bind_s, f3.f0, bind_s, ckd_ok f4, f1, bind_s, i.lk.f0, bind_s, gfi_ok i.1.1.ks, bind_s, i.c701]
  · unfold r_back
    have t1 : r_copy S 1 0 = some T' := t1
    rw [t1, bind_s, r_things_eq i.2.1.1.1 v42, bind_s]
theorem ls_undo : LS_undo In := fun n σ S _ ⟨E, L, V, π, g, own, h⟩ => by
  have h0 := id h
  obtain ⟨⟨a1, a2, a3, a4, a5, -, a7⟩, -, -, ⟨d1, d2, d3, d4⟩, m, n', u, w, ⟨K, SS, IS, EK, ES, EI, eo, lo, vo, p1, p2, p3, p4⟩, r1, r2⟩ := h
  have cs : kX4_countSteps σ 38 = some (nI SS.length) := by
    unfold kX4_countSteps
    simp only [gfr_ok p1.1.1, p1.1.2.2.1, bind_s, ckd_ok p1.2.1.2.1.1.1, p1.2.1.2.1.size]
  obtain ⟨H1, H2, f, H3, H4, H5⟩ := id p2.1
  rcases List.eq_nil_or_concat SS with e | ⟨SS0, s, e⟩
  · subst e
    refine ⟨-1, σ, S, ?_, ?_, h0.in⟩
    · unfold kX11_undo
      rw [h0.lk.f7, bind_s, ckd_ok h0.k38, cs, bind_s]
      rfl
    · unfold r_undo
      rw [show rd S 0 0 = _ from rd_r0 (S := S) (i := 0) (by omega), bind_s, H2]
      rfl
  · rw [List.concat_eq_append] at e
    subst e
    have sl : (SS0 ++ [s]).length = SS0.length + 1 := by rw [List.length_append]; rfl
    rw [sl] at H1 H2
    have smem : s ∈ SS0 ++ [s] := List.mem_append.mpr (Or.inr (List.mem_singleton.mpr rfl))
    have sK := p1.2.2.2.1.2.1.2 s smem
    obtain ⟨σ1, E1, L1, x1, x2, x3, x4, x5, x6, x7, x8, x9⟩ := c_put3 (s := s) p1 d1 a3 a1 d2 (Or.inr sK) (by rw [Pn_pt]; omega) (by rw [Pu_pv]; omega)
    rw [Pn_pt, Pn_pt] at x7
    rw [Pu_pv, Pu_pv] at x8
    obtain ⟨rc1, rc2, rc3, rc4, rc5⟩ := rN_cg p1 a3 x5
    have n1 : rN σ1 K EK ES EI eo lo = rN σ K EK ES EI eo lo := by unfold rN; rw [rc1, rc3, rc4, rc5]
    have n2 : rU σ1 K EK ES EI eo lo = rU σ K EK ES EI eo lo := by unfold rU; rw [rc2, rc3, rc4, rc5]
    have o1 : ∀ x, x < σ.nx → (fun x => if x < σ.nx then own x else 3) x = own x := fun x hx => if_pos hx
    have ow1 : Own (fun x => if x < σ.nx then own x else 3) := fun x hx => by rw [o1 x (by omega)]; exact d1 x hx
    have nx1 := x5.1
    obtain ⟨σ2, y1, y2, ⟨own2, y3, y4⟩, y5, y6, y7, y8, y9⟩ := c_unstep x3 ow1 x6 (by rw [sl]; omega)
    obtain ⟨R', t1, t2, t3, t4, t5⟩ := r_undo_eq (S := S) (n := SS0.length) (f := f) H2 H4 (by omega) H3
    obtain ⟨-, -, vs, us⟩ := p1.2.2.2.2.1 s (Or.inr sK)
    have gs : (SS0 ++ [s])[SS0.length]? = some s := by rw [List.getElem?_append_right (Nat.le_refl _), Nat.sub_self]; rfl
    obtain ⟨π', g', s1, s2, s3⟩ := H5 SS0.length s gs
    have rt : RT R' (vo s) π' := s1.cg vs us (fun x hx1 hx2 => by
      have := t4 (x - 2) (by omega)
      rw [show 2 + (x - 2) = x by omega] at this
      have e : sb f SS0.length + (x - 2) = 23612 * (1 + (f + SS0.length) % 20) + x := by unfold sb; omega
      rw [this, e])
    have pr : PPr SS0 IS vo (r0 S R') := by
      refine ⟨?_, by rw [r0_j (by omega)]; exact p2.2.1, by rw [r0_j (by omega)]; exact p2.2.2⟩
      rw [r0_0]
      refine ⟨by omega, t2, f, H3, t3, fun i x hi => ?_⟩
      have il := get_lt hi
      have := H5 i x (by rw [List.getElem?_append_left il]; exact hi)
      have xk := p1.2.2.2.1.2.1.2 x (List.mem_append.mpr (Or.inl (List.mem_of_getElem? hi)))
      refine Sn.cg2 this (p1.2.2.2.2.1 x (Or.inr xk)).2.2.1 (fun y hy1 hy2 => t5 _ ?_)
      have : 23612 * 1 ≤ 23612 * (1 + (f + i) % 20) := Nat.mul_le_mul_left _ (by omega)
      omega
    have pe : pt σ2 E1 L1 = pt σ1 E1 L1 := by unfold pt; rw [y9]
    have ve : pv σ2 E1 L1 = pv σ1 E1 L1 := by unfold pv; rw [y9]
    have n3 : rN σ2 K EK ES EI eo lo = rN σ1 K EK ES EI eo lo := by
      unfold rN pt; rw [y9]
    have n4 : rU σ2 K EK ES EI eo lo = rU σ1 K EK ES EI eo lo := by
      unfold rU pv; rw [y9]
    obtain ⟨σ3, f1, i, f3, f4⟩ := h0.put w x5 o1 y6 (fun x hx => y4 x hx) y5 (Kf.st3 x2 x6 x4 y6) (fun x hx => by rw [y4 x (Fp.lt x2 x6 hx)]; exact x4 x hx) vs (S' := r0 S R') (by rw [r0_0]; exact rt) s2 s3 ⟨fun j hj => r0_j (by omega), fun k _ => rfl⟩ ⟨r0_j (by omega), fun k _ => rfl⟩ y3 pr (by omega) (by omega)
    refine ⟨nI SS0.length, σ3, r0 S R', ?_, t1, i.in⟩
    unfold kX11_undo
    rw [h0.lk.f7, bind_s, ckd_ok h0.k38, cs, bind_s, sl, if_neg (nI_ne0 (by omega) (by omega)), bind_s, h0.lk.f0, bind_s, ckd_ok h0.k38]
    have tb : kX4_takeBack σ 38 3 = some σ2 := by
      unfold kX4_takeBack
      have q1 := x3.1
      have q2 := x3.2.1.2.1
      have e1 : nI (SS0.length + 1) - 1 = nI SS0.length := by rw [show (1 : Int32) = nI 1 from rfl, pk_sub (by omega), Nat.add_sub_cancel]
      have ks : σ.kd s = 17 := (p1.2.2.2.2.1 s (Or.inr sK)).1.ks
      have ks1 : σ1.kd s = 17 := (x3.2.2.2.2.1 s (Or.inr sK)).1.ks
      have k38 : (sfi σ1 711 s 0).kd 38 = 14 := by rw [kd_sfi]; exact q1.1
      have k40 : (sfi σ1 711 s 0).kd 40 = 22 := by rw [kd_sfi]; exact q2.1.1
      have f40 : (sfi σ1 711 s 0).fr 401 38 = 40 := by rw [fr_sfi]; exact q1.2.2.1
      rw [gfr_ok p1.1.1, bind_s, p1.1.2.2.1, ckd_ok p1.2.1.2.1.1.1, p1.2.1.2.1.size, sl, bind_s, e1, if_pos (nI_pos' (by omega)), bind_s, ckd_ok p1.2.1.2.1.1.1, p1.2.1.2.1.at gs, bind_s, ckc_ok ks, ckd_ok a1.ks, x1, bind_s, gfr_ok q1.1, bind_s, q1.2.2.1, ckd_ok q2.1.1, q2.at gs, bind_s, ckc_ok ks1, y1, bind_s, gfr_ok k38, bind_s, f40, ckd_ok k40, y2, bd2_s]
    rw [tb, bind_s, f3.f2, bind_s, f3.f0, bind_s, ckd_ok f4, f1, bind_s, i.lk.f7, bind_s, ckd_ok i.k38]
    rw [i.steps, bind_s, r0_0, t2]
end BACKS
