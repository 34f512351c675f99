section CFREE
variable {σ σ' : Hp} {own : Nat → Nat} {K SS IS : List Nat} {EK ES EI : Nat} {eo : Nat → Nat} {lo : Nat → List Nat} {vo : Nat → Vt}
theorem St.En {s E : Nat} {L : List Nat} {V : Vt} (h : St σ s E L V) (wn : Wn σ) : E < σ.nx := by
  rcases h.lv.2.1 with q | q
  · rw [q.1]; have := wn.1; omega
  · exact wn.lt q.1
theorem Lv.En {l E : Nat} {L : List Nat} (h : Lv σ l E L) (wn : Wn σ) : E < σ.nx := by
  rcases h.2.1 with q | q
  · rw [q.1]; have := wn.1; omega
  · exact wn.lt q.1
/-- room of the past stays where lengths stay -/
theorem rN_cg {A : Nat → Prop} (h : PPc own K SS IS EK ES EI eo lo vo σ) (wn : Wn σ) (d : Df A σ σ') : ((42 :: K).map (fun s => pt σ' (eo s) (lo s))).sum = ((42 :: K).map (fun s => pt σ (eo s) (lo s))).sum ∧ ((42 :: K).map (fun s => pv σ' (eo s) (lo s))).sum = ((42 :: K).map (fun s => pv σ (eo s) (lo s))).sum ∧ σ'.ln EK = σ.ln EK ∧ σ'.ln ES = σ.ln ES ∧ σ'.ln EI = σ.ln EI := by
  obtain ⟨-, ⟨b1, b2, b3⟩, -, -, e, -⟩ := h
  have en : ∀ s ∈ 42 :: K, σ'.ln (eo s) = σ.ln (eo s) := fun s hs => (d.2.1 _ ((e s (List.mem_cons.mp hs)).1.En wn)).2
  refine ⟨?_, ?_, (d.2.1 _ (b1.En wn)).2, (d.2.1 _ (b2.En wn)).2, (d.2.1 _ (b3.En wn)).2⟩
  · congr 1
    exact List.map_congr_left (fun s hs => by unfold pt; rw [en s hs])
  · congr 1
    exact List.map_congr_left (fun s hs => by unfold pv; rw [en s hs])
set_option maxHeartbeats 1000000 in
/-- a state that may be written over -/
theorem c_free (h : PPc own K SS IS EK ES EI eo lo vo σ) (ow : Own own) (wn : Wn σ) (k1 : σ.kd 1 = 5) (l1 : σ.ln 1 = 0) (hS : SS.length ≤ 19) (hI : IS.length ≤ 20) (h60 : 60 ≤ σ.nx) (hn : σ.nx + rN σ K EK ES EI eo lo + 50 ≤ NXc) (hu : σ.us + rU σ K EK ES EI eo lo + 5000 ≤ UXc) : ∃ s σ1 own1 K1 EK1 eo1 lo1 vo1, kX4_freeState σ 38 = some (s, σ1) ∧ PPc own1 K1 SS IS EK1 ES EI eo1 lo1 vo1 σ1 ∧ (s ∈ K1 ∧ s ∉ SS ∧ s ∉ IS) ∧ (∀ x, x < σ.nx → own1 x = own x) ∧ Kf own σ σ1 ∧ Wn σ1 ∧ σ1.nx + rN σ1 K1 EK1 ES EI eo1 lo1 ≤ σ.nx + rN σ K EK ES EI eo lo ∧ σ1.us + rU σ1 K1 EK1 ES EI eo1 lo1 ≤ σ.us + rU σ K EK ES EI eo lo ∧ (∀ x, x = 42 ∨ x ∈ K → vo1 x = vo x) := by
  obtain ⟨o1, o2, o3, o4, o5, o6, o7, o8⟩ := h.own1 ow
  have kk := h.k38
  obtain ⟨⟨a1, a2⟩, ⟨b1, b2, b3⟩, ⟨c1, c2, c3⟩, ⟨⟨d1, d2⟩, ⟨d3, d3'⟩, ⟨d4, d4'⟩, d5⟩, e, f⟩ := id h
  unfold kX4_freeState
  have key : ∀ (m F n : Nat), m < F → n + m = K.length → (∀ i s : Nat, i < n → K[i]? = some s → s ∈ SS ∨ s ∈ IS) → (∃ s, s ∈ K ∧ s ∉ SS ∧ s ∉ IS ∧ kX4_freeState_2 F 38 (nI n) σ = some (s, σ)) ∨ ((∀ s ∈ K, s ∈ SS ∨ s ∈ IS) ∧ kX4_freeState_2 F 38 (nI n) σ = bd2 (nwO σ 7 13) (fun v3 σ4 => (nz v3).bind (fun _ => (kX7_init σ4 v3).bind (fun σ5 => (gfr σ5 14 400 38).bind (fun v6 => ckd σ5 v6 22 (bd2 (kJx4a65c_add_9ea2d σ5 v6 v3) (fun v7 σ8 => some (v3, σ8)))))))) := by
    intro m
    induction m with
    | zero =>
      intro F n hF hn hb
      obtain ⟨F, rfl⟩ : ∃ F', F = F' + 1 := ⟨F - 1, by omega⟩
      refine Or.inr ⟨fun s hs => ?_, ?_⟩
      · obtain ⟨i, hi⟩ := List.mem_iff_getElem?.mp hs
        have := (List.getElem?_eq_some_iff.mp hi).1
        exact hb i s (by omega) hi
      · rw [kX4_freeState_2.eq_2, kk.1, bind_s, b1.c, b1.size, bind_s, if_pos (nI_le (by omega) (by omega))]
    | succ m ih =>
      intro F n hF hn hb
      obtain ⟨F, rfl⟩ : ∃ F', F = F' + 1 := ⟨F - 1, by omega⟩
      obtain ⟨s, hs⟩ : ∃ s, K[n]? = some s := ⟨_, List.getElem?_eq_getElem (by omega)⟩
      have sK := List.mem_of_getElem? hs
      obtain ⟨e1, -⟩ := e s (Or.inr sK)
      obtain ⟨f1, f2⟩ := f s sK
      have step : (s ∈ SS ∨ s ∈ IS) → ∀ Y, kX4_freeState_41 (kX4_freeState_2 F) 38 (nI n) σ = Y ↔ kX4_freeState_2 F 38 (nI (n + 1)) σ = Y := fun _ Y => by unfold kX4_freeState_41; rw [nI_1]
      have go : (s ∈ SS ∨ s ∈ IS) → _ := fun hh => ih F (n + 1) (by omega) (by omega) (fun i x hi hx => by
        by_cases z : i = n
        · rw [z, hs] at hx; cases hx; exact hh
        · exact hb i x (by omega) hx)
      rw [kX4_freeState_2.eq_2, kk.1, bind_s, b1.c, b1.size, bind_s, if_neg (nI_ge (by omega) (by omega)), bind_s, b1.c, b1.at hs, bind_s, ckc_ok e1.ks, gfi_ok e1.ks, bind_s, f1, bI_0']
      unfold kX4_freeState_41
      rw [nI_1]
      by_cases z : s ∈ SS
      · rw [if_neg (not_not_intro z)]
        exact go (Or.inl z)
      · rw [if_pos z, gfi_ok e1.ks, bind_s, f2, bI_0']
        by_cases y : s ∈ IS
        · rw [if_neg (not_not_intro y)]
          exact go (Or.inr y)
        · rw [if_pos y]
          exact Or.inl ⟨s, sK, z, y, rfl⟩
  rcases key K.length FU 0 (FU_gt (by omega)) (by omega) (fun i s hi => absurd hi (Nat.not_lt_zero _)) with ⟨s, s1, s2, s3, s4⟩ | ⟨all, q⟩
  · exact ⟨s, σ, own, K, EK, eo, lo, vo, s4, h, ⟨s1, s2, s3⟩, fun _ _ => rfl, Df.rfl, wn, Nat.le_refl _, Nat.le_refl _, fun _ _ => rfl⟩
  · -- a new one is made
    have K39 : K.length ≤ 39 := by
      have := nd_sub K (SS ++ IS) d1 (fun x hx => List.mem_append.mpr (all x hx))
      rw [List.length_append] at this
      omega
    have rn5 : 5700 ≤ rN σ K EK ES EI eo lo := by unfold rN; omega
    have ru5 : 42000 ≤ rU σ K EK ES EI eo lo := by unfold rU; omega
    have rnE : 1600 - σ.ln EK + 5700 ≤ rN σ K EK ES EI eo lo := by unfold rN; omega
    obtain ⟨σa, σb, g1, g2, g3, g4, g5, g6, g7, g8, g9, g10⟩ := c_newState wn k1 l1 (by omega) (by omega)
    have nz0 : nz σ.nx = some () := nz_ok (by omega)
    have e1' : ∀ x, x < σ.nx → x ≠ 1 → ¬ (fun x => x = 1) x := fun x _ hx => hx
    have el : ∀ {l E : Nat} {L : List Nat}, Lv σ l E L → l ≠ 1 → Lv σb l E L := fun h hl => h.df wn g5 hl (fun hn => hn)
    have b1b := el b1 (by decide)
    have b2b := el b2 (by decide)
    have b3b := el b3 (by decide)
    have f38 := (g5.2.2 38 (wn.lt a1) (show (38 : Nat) ≠ 1 by decide)).2.1
    have bn : σb.nx ≤ σ.nx + 5610 := by unfold Pn at g7; omega
    have bu : σb.us ≤ σ.us + 41510 := by unfold Pu at g8; omega
    have lEK : σb.ln EK = σ.ln EK := (g5.2.1 _ (b1.En wn)).2
    obtain ⟨σc, EK1, m1, m2, m3, m4, m5, m6, m7⟩ := b1b.add2 g4 (a := σ.nx) g3.ks (by omega) (by rw [lEK]; omega) (by omega)
    have nx1 := g5.1
    have nx2 := m4.1
    have eKn : EK < σ.nx := b1.En wn
    obtain ⟨own1, how⟩ : ∃ own1 : Nat → Nat, own1 = fun x => if x < σ.nx then own x else if x < σb.nx then σ.nx else 39 := ⟨_, rfl⟩
    have ol : ∀ x, x < σ.nx → own1 x = own x := fun x hx => by rw [how]; exact if_pos hx
    have om : ∀ x, σ.nx ≤ x → x < σb.nx → own1 x = σ.nx := fun x h1 h2 => by rw [how]; show (if _ then _ else if _ then _ else _) = _; rw [if_neg (by omega), if_pos h2]
    have oh : ∀ x, σb.nx ≤ x → own1 x = 39 := fun x h1 => by rw [how]; show (if _ then _ else if _ then _ else _) = _; rw [if_neg (by omega), if_neg (by omega)]
    have nK : σ.nx ∉ K := fun z => by have := wn.lt (e σ.nx (Or.inr z)).1.ks; omega
    obtain ⟨eo1, he⟩ : ∃ eo1 : Nat → Nat, eo1 = fun x => if x = σ.nx then σ.nx + 10 else eo x := ⟨_, rfl⟩
    obtain ⟨lo1, hl⟩ : ∃ lo1 : Nat → List Nat, lo1 = fun x => if x = σ.nx then [σ.nx + 6] else lo x := ⟨_, rfl⟩
    obtain ⟨vo1, hv⟩ : ∃ vo1 : Nat → Vt, vo1 = fun x => if x = σ.nx then V00 else vo x := ⟨_, rfl⟩
    have en : ∀ x, x ≠ σ.nx → eo1 x = eo x ∧ lo1 x = lo x ∧ vo1 x = vo x := fun x hx => by rw [he, hl, hv]; exact ⟨if_neg hx, if_neg hx, if_neg hx⟩
    have es : eo1 σ.nx = σ.nx + 10 ∧ lo1 σ.nx = [σ.nx + 6] ∧ vo1 σ.nx = V00 := by rw [he, hl, hv]; exact ⟨if_pos rfl, if_pos rfl, if_pos rfl⟩
    have Fs : ∀ x, Fp σ.nx (σ.nx + 10) [σ.nx + 6] x → σ.nx ≤ x ∧ x < σb.nx := fun x hx => by
      rcases hx with q | q | ⟨a, ha, q⟩
      · omega
      · omega
      · rw [List.mem_singleton.mp ha] at q
        unfold Ap at q
        omega
    have dd : Df (fun x => x = 1 ∨ x = 39 ∨ x = EK) σ σc := (g5.mono (fun x _ q => Or.inl q)).trans m4 (fun x _ q => Or.inr q)
    have nA : ∀ x, x < σ.nx → own x ≠ 1 → own x ≠ 39 → ¬ (x = 1 ∨ x = 39 ∨ x = EK) := fun x _ h1 h2 q => by
      rcases q with rfl | rfl | rfl
      · exact h1 o4
      · exact h2 o6
      · rcases o1 with q | q
        · exact h2 q
        · rw [q] at h1; exact h1 o4
    have mem1 : ∀ x, x ∈ K ++ [σ.nx] ↔ x ∈ K ∨ x = σ.nx := fun x => by rw [List.mem_append, List.mem_singleton]
    have n42 : (42 : Nat) ≠ σ.nx := by omega
    have st1 : ∀ s, s = 42 ∨ s ∈ K ++ [σ.nx] → St σc s (eo1 s) (lo1 s) (vo1 s) ∧ (∀ x, Fp s (eo1 s) (lo1 s) x → own1 x = s) ∧ Vw (vo1 s) ∧ (vo1 s).U ≤ 780 := fun s hs => by
      by_cases z : s = σ.nx
      · subst z
        rw [es.1, es.2.1, es.2.2]
        refine ⟨g3.df g4 m4 (fun x hx q => by have := Fs x hx; omega), fun x hx => om x (Fs x hx).1 (Fs x hx).2, ⟨fun t _ => Or.inl rfl, by decide, by decide, by decide, fun e he => (by cases he), List.Pairwise.nil⟩, by decide⟩
      · obtain ⟨q1, q2, q3⟩ := en s z
        have hs' : s = 42 ∨ s ∈ K := hs.imp id (fun y => ((mem1 s).mp y).resolve_right z)
        obtain ⟨u1, u2, u3, u4⟩ := e s hs'
        have s6 : s = 42 ∨ 60 ≤ s := hs'.imp id (d2 s)
        rw [q1, q2, q3]
        exact ⟨u1.df wn dd (fun x hx => nA x (Fp.lt u1 wn hx) (by rw [u2 x hx]; omega) (by rw [u2 x hx]; omega)), fun x hx => by rw [ol x (Fp.lt u1 wn hx)]; exact u2 x hx, u3, u4⟩
    have l39 : ∀ {l E : Nat} {L : List Nat}, Lv σb l E L → l ≠ 39 → (E = EK → E = 1) → (E ≠ 1 → E ≠ 39) → Lv σc l E L := fun h h1 h2 h3 => h.df g4 m4 (fun q => by
      rcases q with q | q
      · exact h1 q
      · have := b1b.2.1
        have kl := h.1.1
        rw [q] at kl
        rcases this with r | r
        · rw [r.1, r.2.1] at kl; cases kl
        · rw [r.1] at kl; cases kl) (fun hn q => by
      rcases q with q | q
      · exact h3 hn q
      · exact hn (h2 q))
    have eS : ES = EK → ES = 1 := fun q => by
      rcases o2 with r | r
      · rcases o1 with t | t
        · rw [q, t] at r; cases r
        · rw [q]; exact t
      · exact r
    have eI : EI = EK → EI = 1 := fun q => by
      rcases o3 with r | r
      · rcases o1 with t | t
        · rw [q, t] at r; cases r
        · rw [q]; exact t
      · exact r
    have e39 : ∀ {l E : Nat} {L : List Nat}, Lv σ l E L → E ≠ 1 → E ≠ 39 := fun h hn q => by
      rcases h.2.1 with r | r
      · exact hn r.1
      · have := r.1
        rw [q, b1.1.1] at this
        cases this
    have b2c := l39 b2b (by decide) eS (e39 b2)
    have b3c := l39 b3b (by decide) eI (e39 b3)
    have ppc : PPc own1 (K ++ [σ.nx]) SS IS EK1 ES EI eo1 lo1 vo1 σc := by
      have k38 := wn.lt a1
      have fr := (dd.2.2 38 k38 (nA 38 k38 (by rw [o5]; decide) (by rw [o5]; decide))).2.1
      refine ⟨⟨(dd.2.1 38 k38).1.trans a1, by rw [fr, fr, fr, fr]; exact a2⟩, ⟨m2, b2c, b3c⟩, ⟨fun hn => ?_, fun hn => by rw [ol _ (b2.En wn)]; exact c2 hn, fun hn => by rw [ol _ (b3.En wn)]; exact c3 hn⟩, ⟨⟨?_, fun s hs => ?_⟩, ⟨d3, fun s hs => (mem1 s).mpr (Or.inl (d3' s hs))⟩, ⟨d4, fun s hs => (mem1 s).mpr (Or.inl (d4' s hs))⟩, by rw [List.length_append, List.length_singleton]; omega⟩, st1, fun s hs => ?_⟩
      · rcases m5 with r | r
        · rw [r, ol _ eKn]; rw [r] at hn; exact c1 hn
        · rw [r]; exact oh _ (Nat.le_refl _)
      · rw [List.nodup_append]
        exact ⟨d1, by simp, fun x hx y hy => by rw [List.mem_singleton.mp hy]; exact fun q => nK (q ▸ hx)⟩
      · rcases (mem1 s).mp hs with r | r
        · exact d2 s r
        · omega
      · rcases (mem1 s).mp hs with r | r
        · obtain ⟨u1, u2, -⟩ := e s (Or.inr r)
          have sn := wn.lt u1.ks
          have ss : own s = s := u2 s (Or.inl ⟨Nat.le_refl _, by omega⟩)
          have s6 := d2 s r
          have q := (dd.2.2 s sn (nA s sn (by rw [ss]; omega) (by rw [ss]; omega))).1
          rw [q, q]
          exact f s r
        · subst r
          have q := (m4.2.2 σ.nx (by omega) (fun q => by omega)).1
          rw [q, q, g9, g10, bI_f (fun y => nK (d3' _ y)), bI_f (fun y => nK (d4' _ y))]
          exact ⟨rfl, rfl⟩
    have rr := rN_cg h wn dd
    have lb : σc.ln (σ.nx + 10) = σb.ln (σ.nx + 10) := (m4.2.1 _ (by omega)).2
    have s1 : ((42 :: (K ++ [σ.nx])).map (fun s => pt σc (eo1 s) (lo1 s))).sum = ((42 :: K).map (fun s => pt σ (eo s) (lo s))).sum + pt σb (σ.nx + 10) [σ.nx + 6] := by
      rw [← rr.1, List.map_cons, List.map_cons, List.map_append, List.sum_cons, List.sum_cons, List.sum_append]
      have : K.map (fun s => pt σc (eo1 s) (lo1 s)) = K.map (fun s => pt σc (eo s) (lo s)) := List.map_congr_left (fun s hs => by rw [(en s (fun q => nK (q ▸ hs))).1, (en s (fun q => nK (q ▸ hs))).2.1])
      rw [this, (en 42 n42).1, (en 42 n42).2.1]
      show _ + (_ + (pt σc (eo1 σ.nx) (lo1 σ.nx) + 0)) = _
      rw [es.1, es.2.1]
      have : pt σc (σ.nx + 10) [σ.nx + 6] = pt σb (σ.nx + 10) [σ.nx + 6] := by unfold pt; rw [lb]
      omega
    have s2 : ((42 :: (K ++ [σ.nx])).map (fun s => pv σc (eo1 s) (lo1 s))).sum = ((42 :: K).map (fun s => pv σ (eo s) (lo s))).sum + pv σb (σ.nx + 10) [σ.nx + 6] := by
      rw [← rr.2.1, List.map_cons, List.map_cons, List.map_append, List.sum_cons, List.sum_cons, List.sum_append]
      have : K.map (fun s => pv σc (eo1 s) (lo1 s)) = K.map (fun s => pv σc (eo s) (lo s)) := List.map_congr_left (fun s hs => by rw [(en s (fun q => nK (q ▸ hs))).1, (en s (fun q => nK (q ▸ hs))).2.1])
      rw [this, (en 42 n42).1, (en 42 n42).2.1]
      show _ + (_ + (pv σc (eo1 σ.nx) (lo1 σ.nx) + 0)) = _
      rw [es.1, es.2.1]
      have : pv σc (σ.nx + 10) [σ.nx + 6] = pv σb (σ.nx + 10) [σ.nx + 6] := by unfold pv; rw [lb]
      omega
    have g7' : σb.nx + pt σb (σ.nx + 10) [σ.nx + 6] ≤ σ.nx + 5610 := by unfold Pn at g7; unfold pt; omega
    have g8' : σb.us + pv σb (σ.nx + 10) [σ.nx + 6] ≤ σ.us + 41510 := by unfold Pu at g8; unfold pv; omega
    refine ⟨σ.nx, σc, own1, K ++ [σ.nx], EK1, eo1, lo1, vo1, ?_, ppc, ⟨(mem1 _).mpr (Or.inr rfl), fun y => nK (d3' _ y), fun y => nK (d4' _ y)⟩, ol, dd.mono (fun x hx q => ?_), m3, ?_, ?_, fun x hx => ?_⟩
    · have q : kX4_freeState_2 FU 38 0 σ = _ := q
      have k38b : gfr σb 14 400 38 = some 39 := by rw [gfr_ok ((g5.2.1 38 (wn.lt a1)).1.trans a1), f38, a2.1]
      rw [q, g1, bd2_s, nz0, bind_s, g2, bind_s, k38b, bind_s, b1b.c, m1, bd2_s]
    · rcases q with rfl | rfl | rfl
      · exact Or.inl o4
      · exact Or.inr (Or.inl o6)
      · rcases o1 with q | q
        · exact Or.inr (Or.inl q)
        · rw [q]; exact Or.inl o4
    · unfold rN
      rw [s1, rr.2.2.2.1, rr.2.2.2.2, List.length_append, List.length_singleton]
      rw [lEK] at m6
      omega
    · unfold rU
      rw [s2, rr.2.2.2.1, rr.2.2.2.2, List.length_append, List.length_singleton]
      rw [lEK] at m7
      omega
    · refine (en x (fun q => ?_)).2.2
      rcases hx with z | z
      · omega
      · exact nK (q ▸ z)
end CFREE
