section KEEP
variable {σ : Hp} {S : MS} {own : Nat → Nat} {K SS IS : List Nat} {EK ES EI E : Nat} {eo : Nat → Nat} {lo : Nat → List Nat} {vo : Nat → Vt} {L : List Nat} {V : Vt} {π : Nat → Nat} {g : Gh}
theorem RT.cg {f f' : Nat → Int32} (h : RT f V π) (hv : Vw V) (hU : V.U ≤ 780) (e : ∀ x, 2 ≤ x → x < 23614 → f' x = f x) : RT f' V π := by
  obtain ⟨⟨⟨q1, q2, q3⟩, q4, q5⟩, q6, q7, q8, q9⟩ := h
  have l16 := hv.2.2.2.1
  refine ⟨⟨⟨(e _ (by omega) (by omega)).trans q1, (e _ (by omega) (by omega)).trans q2, (e _ (by omega) (by omega)).trans q3⟩, fun t ht => (e _ (by omega) (by omega)).trans (q4 t ht), fun k en he => ?_⟩, (e _ (by omega) (by omega)).trans q6, fun p hp => ⟨(q7 p hp).1, (q7 p hp).2.keep (fun x x1 x2 => e x (by omega) ?_)⟩, fun p p1 p2 => (e _ (by omega) (by omega)).trans (q8 p p1 p2), q9⟩
  · have := get_lt he
    exact ⟨(e _ (by omega) (by omega)).trans (q5 k en he).1, (e _ (by omega) (by omega)).trans (q5 k en he).2.1, (e _ (by omega) (by omega)).trans (q5 k en he).2.2⟩
  · have := (q7 p hp).1
    omega
theorem Sn.cg2 {f f' : Nat → Int32} (h : Sn f V) (hv : Vw V) (e : ∀ x, 2 ≤ x → x < 23614 → f' x = f x) : Sn f' V := by
  obtain ⟨π, g, h1, h2, h3⟩ := h
  exact ⟨π, g, h1.cg hv h2.u e, h2, h3⟩
theorem hst_vo {R : Nat → Int32} {vo' : Nat → Vt} (h : Hst R SS vo) (e : ∀ s ∈ SS, vo' s = vo s) : Hst R SS vo' := by
  obtain ⟨h1, h2, f, h3, h4, h5⟩ := h
  exact ⟨h1, h2, f, h3, h4, fun i s hi => by rw [e s (List.mem_of_getElem? hi)]; exact h5 i s hi⟩
theorem Kf.st3 {σ' : Hp} (st : St σ 3 E L V) (wn : Wn σ) (o3 : ∀ x, Fp 3 E L x → own x = 3) (d : Kf own σ σ') : St σ' 3 E L V := st.df wn d (fun x hx q => by rw [o3 x hx] at q; omega)
theorem rN_cg2 {σ' : Hp} {gS gI : Nat → Bool} {A : Nat → Prop} (h : PPg own K SS IS EK ES EI eo lo vo gS gI σ) (wn : Wn σ) (d : Df A σ σ') : ((42 :: K).map (fun s => pt σ' (eo s) (lo s))).sum = ((42 :: K).map (fun s => pt σ (eo s) (lo s))).sum ∧ ((42 :: K).map (fun s => pv σ' (eo s) (lo s))).sum = ((42 :: K).map (fun s => pv σ (eo s) (lo s))).sum ∧ σ'.ln EK = σ.ln EK ∧ σ'.ln ES = σ.ln ES ∧ σ'.ln EI = σ.ln EI := by
  obtain ⟨-, ⟨b1, b2, b3⟩, -, -, e, -⟩ := h
  have en : ∀ s ∈ 42 :: K, σ'.ln (eo s) = σ.ln (eo s) := fun s hs => (d.2.1 _ ((e s (List.mem_cons.mp hs)).1.En wn)).2
  refine ⟨?_, ?_, (d.2.1 _ (b1.En wn)).2, (d.2.1 _ (b2.En wn)).2, (d.2.1 _ (b3.En wn)).2⟩
  · congr 1
    exact List.map_congr_left (fun s hs => by unfold pt; rw [en s hs])
  · congr 1
    exact List.map_congr_left (fun s hs => by unfold pv; rw [en s hs])
set_option maxHeartbeats 1000000 in
/-- both keep a step -/
theorem j_keep (h : PPc own K SS IS EK ES EI eo lo vo σ) (hr : PPr SS IS vo S) (ow : Own own) (wn : Wn σ) (k1 : σ.kd 1 = 5) (l1 : σ.ln 1 = 0) (h60 : 60 ≤ σ.nx) (st3 : St σ 3 E L V) (o3 : ∀ x, Fp 3 E L x → own x = 3) (hv : Vw V) (w : Wf V g V.U) (rt : RT (S.1 0) V π) (hlo : ∀ t, (g.lo t).isSome = decide (hs V t)) (hn : σ.nx + rN σ K EK ES EI eo lo + 100 ≤ NXc) (hu : σ.us + rU σ K EK ES EI eo lo + 10000 ≤ UXc) : ∃ σ' S' own' K' SS' EK' ES' eo' lo' vo', kX4_keep σ 38 3 = some σ' ∧ r_keep S = some S' ∧ PPc own' K' SS' IS EK' ES' EI eo' lo' vo' σ' ∧ PPr SS' IS vo' S' ∧ (∀ x, x < σ.nx → own' x = own x) ∧ Kf own σ σ' ∧ Wn σ' ∧ σ'.nx + rN σ' K' EK' ES' EI eo' lo' ≤ σ.nx + rN σ K EK ES EI eo lo ∧ σ'.us + rU σ' K' EK' ES' EI eo' lo' ≤ σ.us + rU σ K EK ES EI eo lo ∧ (∀ x, 2 ≤ x → x < 23614 → S'.1 0 x = S.1 0 x) ∧ (∀ j, j ≠ 0 → S'.1 j = S.1 j) ∧ S'.2 = S.2 := by
  obtain ⟨⟨r1, r2, f, r3, r4, r5⟩, im, hi⟩ := hr
  have hI20 := hi.1
  have U780 := w.u
  -- the oldest goes where twenty are there
  have first : ∃ σa SSa, kX4_keep σ 38 3 = kX4_keep_36 38 3 σa ∧ PPc own K SSa IS EK ES EI eo lo vo σa ∧ Wn σa ∧ Kf own σ σa ∧ σa.nx = σ.nx ∧ σa.us = σ.us ∧ σa.ln = σ.ln ∧ ((SS.length = 20 ∧ SS.length = SSa.length + 1 ∧ ∀ i : Nat, SSa[i]? = SS[i + 1]?) ∨ (SS.length < 20 ∧ SSa = SS)) := by
    have kk := h.k38
    have b2 := h.2.1.2.1
    unfold kX4_keep
    rw [kk.2.1, bind_s, b2.c, b2.size, bind_s]
    by_cases z : SS.length < 20
    · rw [if_pos (show nI SS.length < (20 : Int32) from nI_lt (b := 20) z (by decide))]
      exact ⟨σ, SS, rfl, h, wn, Df.rfl, rfl, rfl, rfl, Or.inr ⟨z, rfl⟩⟩
    · cases hSS : SS with
      | nil => rw [hSS] at z; exact absurd (by decide) z
      | cons s0 rest =>
        rw [hSS] at h b2 z r1
        obtain ⟨σ1, g1, g2, g3, g4, g5, g6, g7, g8⟩ := c_shift h ow wn (by omega)
        have e1 := (h.2.2.2.2.1 s0 (Or.inr (h.2.2.2.1.2.1.2 s0 (List.mem_cons_self ..)))).1
        have kk2 : gfr (sfi σ 711 s0 0) 14 401 38 = some 40 := kk.2.1
        have b22 := b2.fl (i := 711) (x := s0) (v := 0) (Or.inl rfl)
        refine ⟨σ1, rest, ?_, g3, g4, g5, g6, g7, g8, Or.inl ⟨by omega, rfl, fun i => rfl⟩⟩
        rw [if_neg (show ¬ nI (s0 :: rest).length < (20 : Int32) from nI_nlt (b := 20) (by omega) (by omega)), bind_s, b2.c, show (0 : Int32) = nI 0 from rfl, b2.at (i := 0) (a := s0) rfl, bind_s, ckc_ok e1.ks]
        show (pfz σ 17 711 s0 0).bind _ = _
        rw [g1, bind_s, kk2, bind_s, b22.c]
        show bd2 (kJx4a65c_remove_915e3 (sfi σ 711 s0 0) 40 0) _ = _
        rw [g2, bd2_s]
  obtain ⟨σa, SSa, q1, q2, q3, q4, q5, q6, q7, q8⟩ := first
  have rNa : rN σa K EK ES EI eo lo = rN σ K EK ES EI eo lo := by unfold rN pt; rw [q7]
  have rUa : rU σa K EK ES EI eo lo = rU σ K EK ES EI eo lo := by unfold rU pv; rw [q7]
  have SSa19 : SSa.length ≤ 19 := by
    rcases q8 with ⟨a, b, -⟩ | ⟨a, b⟩
    · omega
    · rw [b]; omega
  have k1a : σa.kd 1 = 5 := (q4.2.1 1 (by omega)).1.trans k1
  have l1a : σa.ln 1 = 0 := by rw [q7]; exact l1
  obtain ⟨s, σb, own1, K1, EK1, eo1, lo1, vo1, f1, f2, ⟨f3, f4, f5⟩, f6, f7, f8, f9, f10, f11⟩ := c_free q2 ow q3 k1a l1a SSa19 hI20 (by omega) (by omega) (by omega)
  have nxb := f7.1
  have ow1 : Own own1 := fun x hx => (f6 x (by omega)).trans (ow x hx)
  have kfb : Kf own σ σb := q4.tr f7 (fun x _ => rfl)
  have st3b := Kf.st3 st3 wn o3 kfb
  have o3b : ∀ x, Fp 3 E L x → own1 x = 3 := fun x hx => by rw [f6 x (by have := Fp.lt st3 wn hx; omega)]; exact o3 x hx
  obtain ⟨σc, own2, eo2, lo2, vo2, g1, g2, g3, g4, g5, g6, g7, g8, g9⟩ := f2.g.copy ow1 f8 st3b o3b (Or.inr f3) hv U780 (by omega) (by omega)
  have nxc := g6.1
  have ow2 : Own own2 := fun x hx => (g5 x (by omega)).trans (ow1 x hx)
  obtain ⟨m1, m2, m3⟩ := g2.mS (b := true) ow2 f3
  have bt : bI (true = true) = 1 := rfl
  rw [bt] at m1 m2 m3
  have wnd : Wn (sfi σc 711 s 1) := g7
  have s17 : (sfi σc 711 s 1).kd s = 17 := (m2.2.2.2.2.1 s (Or.inr f3)).1.ks
  have b2d := m2.2.1.2.1
  have lnES : σc.ln ES = σb.ln ES := (g6.2.1 _ (f2.2.1.2.1.En f8)).2
  have rnd : 1600 - σc.ln ES ≤ rN σc K1 EK1 ES EI eo2 lo2 := by unfold rN; omega
  obtain ⟨σe, ES', n1, n2, n3, n4, n5, n6, n7⟩ := b2d.add2 wnd (a := s) s17 (by omega) (by show σc.nx + (1600 - σc.ln ES) + 1 ≤ NXc; omega) (by show σc.us + 1600 ≤ UXc; omega)
  have ndS : (SSa ++ [s]).Nodup := by
    rw [List.nodup_append]
    exact ⟨f2.2.2.2.1.2.1.1, by simp, fun x hx y hy => by rw [List.mem_singleton.mp hy]; exact fun q => f4 (q ▸ hx)⟩
  have memS : ∀ x, x ∈ SSa ++ [s] ↔ x ∈ SSa ∨ x = s := fun x => by rw [List.mem_append, List.mem_singleton]
  obtain ⟨p1, p2⟩ := m2.lS (σ' := σe) (X' := SSa ++ [s]) (XE' := ES') ow2 wnd n4 n2 n5 ndS (fun x hx => ((memS x).mp hx).elim (f2.2.2.2.1.2.1.2 x) (fun q => q ▸ f3))
  have ppc := p1.c (fun x hx => by
    rw [memS x]
    by_cases z : x = s
    · rw [z, bup_s]; exact ⟨fun _ => Or.inr rfl, fun _ => rfl⟩
    · rw [bup_n z, decide_eq_true_iff]; exact ⟨Or.inl, fun y => y.resolve_right z⟩) (fun x hx => decide_eq_true_iff)
  -- the reference
  obtain ⟨R', n', f', t1, t2, t3, t4, t5, t6, t7⟩ := r_keep_eq r2 r4 r1 r3
  have f'20 : f' < 20 := by
    rcases t2 with ⟨-, -, a⟩ | ⟨-, -, a⟩
    · rw [a]; exact Nat.mod_lt _ (by decide)
    · rw [a]; exact r3
  have n'e : n' = SSa.length := by
    rcases q8 with ⟨a, b, -⟩ | ⟨a, b⟩
    · rcases t2 with ⟨c, d, -⟩ | ⟨c, d, -⟩ <;> omega
    · rw [b]
      rcases t2 with ⟨c, d, -⟩ | ⟨c, d, -⟩ <;> omega
  have vs : ∀ x ∈ SSa, vo2 x = vo x := fun x hx => by
    have xs : x ≠ s := fun q => f4 (q ▸ hx)
    rw [g4 x xs]
    exact f11 x (Or.inr (q2.2.2.2.1.2.1.2 x hx))
  have vi : ∀ x ∈ IS, vo2 x = vo x := fun x hx => by
    have xs : x ≠ s := fun q => f5 (q ▸ hx)
    rw [g4 x xs]
    exact f11 x (Or.inr (h.2.2.2.1.2.2.1.2 x hx))
  have s60 := f2.2.2.2.1.1.2 s f3
  have v42 : vo2 42 = vo 42 := by rw [g4 42 (by omega)]; exact f11 42 (Or.inl rfl)
  -- where an old step lies
  have old : ∀ i x : Nat, SSa[i]? = some x → Sn (fun y => S.1 0 (23612 * (1 + (f' + i) % 20) + y)) (vo x) ∧ (f' + i) % 20 ≠ (f' + n') % 20 := fun i x hx => by
    have il := (List.getElem?_eq_some_iff.mp hx).1
    refine ⟨?_, by omega⟩
    rcases q8 with ⟨a, b, c⟩ | ⟨a, b⟩
    · rcases t2 with ⟨c1, d1, e1⟩ | ⟨c1, d1, e1⟩
      · rw [c i] at hx
        have := r5 (i + 1) x hx
        rw [show (f' + i) % 20 = (f + (i + 1)) % 20 by rw [e1]; omega]
        exact this
      · omega
    · rcases t2 with ⟨c1, d1, e1⟩ | ⟨c1, d1, e1⟩
      · omega
      · rw [b] at hx
        rw [e1]
        exact r5 i x hx
  have hst : Hst R' (SSa ++ [s]) vo2 := by
    refine ⟨by rw [List.length_append, List.length_singleton]; omega, by rw [t3, List.length_append, List.length_singleton, n'e], f', f'20, t4, fun i x hx => ?_⟩
    by_cases z : i < SSa.length
    · rw [List.getElem?_append_left z] at hx
      obtain ⟨o1, o2⟩ := old i x hx
      rw [vs x (List.mem_of_getElem? hx)]
      have hvx := (h.2.2.2.2.1 x (Or.inr (q2.2.2.2.1.2.1.2 x (List.mem_of_getElem? hx)))).2.2.1
      refine o1.cg2 hvx (fun y y1 y2 => ?_)
      have := sb_ne o2
      have bl := sb_le f' i
      unfold sb at this bl
      exact t7 _ (by omega) (by unfold sb; omega)
    · have zl : i = SSa.length := by
        have := (List.getElem?_eq_some_iff.mp hx).1
        rw [List.length_append] at this
        simp at this
        omega
      subst zl
      rw [List.getElem?_append_right (Nat.le_refl _), Nat.sub_self] at hx
      have : s = x := by simpa using hx
      subst this
      rw [g3]
      refine ⟨π, g, rt.cg hv U780 (fun y y1 y2 => ?_), w, hlo⟩
      have := t6 (y - 2) (by omega)
      rw [n'e] at this
      unfold sb at this
      rw [show 2 + (y - 2) = y by omega] at this
      rw [← this]
      congr 1
      omega
  have kd38 : σa.kd 38 = 14 := q2.1.1
  refine ⟨σe, r0 S R', _, K1, SSa ++ [s], EK1, ES', eo2, lo2, vo2, ?_, t1, ppc, ⟨by rw [r0_0]; exact hst, by rw [r0_j (by decide), v42]; exact im, by rw [r0_j (by decide)]; exact hst_vo hi vi⟩, fun x hx => ?_, ?_, n3, ?_, ?_, fun x x1 x2 => by rw [r0_0]; exact t5 x x1 x2, fun j hj => r0_j hj, r0_f⟩
  · rw [q1]
    unfold kX4_keep_36
    have k401 : gfr (sfi σc 711 s 1) 14 401 38 = some 40 := by rw [gfr_ok m2.1.1, m2.1.2.2.1]
    rw [ckd_ok kd38, f1, bd2_s, ckd_ok (f2.2.2.2.2.1 s (Or.inr f3)).1.ks, g1, bind_s, m1, bind_s, k401, bind_s, b2d.c, n1, bd2_s]
  · show (if x < (sfi σc 711 s 1).nx then own2 x else 40) = own x
    rw [if_pos (show x < (sfi σc 711 s 1).nx from show x < σc.nx by omega), g5 x (by omega), f6 x (by omega)]
  · have a1 : Kf own σ σc := kfb.tr g6 (fun x hx => f6 x (by omega))
    have a2 : Kf own σ (sfi σc 711 s 1) := a1.tr m3 (fun x hx => by rw [g5 x (by omega), f6 x (by omega)])
    exact a2.tr p2 (fun x hx => by rw [g5 x (by omega), f6 x (by omega)])
  · have rd := rN_cg2 m2 wnd n4
    have e1 : rN (sfi σc 711 s 1) K1 EK1 ES EI eo2 lo2 = rN σc K1 EK1 ES EI eo2 lo2 := rfl
    have e2 : (sfi σc 711 s 1).nx = σc.nx := rfl
    have : σe.nx + rN σe K1 EK1 ES' EI eo2 lo2 ≤ (sfi σc 711 s 1).nx + rN (sfi σc 711 s 1) K1 EK1 ES EI eo2 lo2 := by
      unfold rN
      rw [rd.1, rd.2.2.1, rd.2.2.2.2]
      omega
    omega
  · have rd := rN_cg2 m2 wnd n4
    have e1 : rU (sfi σc 711 s 1) K1 EK1 ES EI eo2 lo2 = rU σc K1 EK1 ES EI eo2 lo2 := rfl
    have e2 : (sfi σc 711 s 1).us = σc.us := rfl
    have : σe.us + rU σe K1 EK1 ES' EI eo2 lo2 ≤ (sfi σc 711 s 1).us + rU (sfi σc 711 s 1) K1 EK1 ES EI eo2 lo2 := by
      unfold rU
      rw [rd.2.1, rd.2.2.1, rd.2.2.2.2]
      omega
    omega
end KEEP
