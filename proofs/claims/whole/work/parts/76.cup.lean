section CUP
variable {σ σ1 : Hp} {E : Nat} {L : List Nat} {V : Vt} {a b : Nat}
theorem Ts.root (h : Ts σ E L V) (r : Nat) : Ts (sfi σ 710 3 (nI r)) E L (V.sR r) ∧ Tq σ E L (sfi σ 710 3 (nI r)) E L := by
  obtain ⟨h1, h2, h3, h4, h5, h6, h7⟩ := h
  obtain ⟨a1, ⟨a2, a3⟩, a4, a5, a6, a7, a8⟩ := id h1
  have ne : ∀ c ∈ L, c ≠ 3 := fun c hc z => by
    have := pg_hd (a6 c hc) a1 h1.kl
    omega
  refine ⟨⟨⟨a1.si (Or.inr (Or.inl rfl)), ⟨by rw [fi_sfi, if_neg (by omega)]; exact a2, by rw [fi_sfi, if_pos ⟨rfl, rfl⟩]; rfl⟩, a4.si (by omega), a5, fun c hc => (a6 c hc).si, a7, fun p c hp hc => (a8 p c hp hc).si (ne c (List.mem_of_getElem? hc))⟩, h2, h3, h4, h5, h6, h7⟩, Df.xi (Or.inl (Or.inl ⟨by omega, by omega⟩)), fun _ _ q => q, fun _ _ q => q, Nat.le_refl _, Nat.le_refl _⟩
theorem Tv.cg {V' : Vt} (h : Tv σ V) (hW : V'.W = V.W) (hT : V'.T = V.T) (hM : V'.M = V.M) : Tv σ V' := by
  unfold Tv hs far at *
  rw [hW, hT, hM]
  exact h
theorem sP_sP {p : Nat} {g g' : Pg} : (V.sP p g).sP p g' = V.sP p g' := by
  have : (fun q => if q = p then g' else (V.sP p g).P q) = (fun q => if q = p then g' else V.P q) := by
    funext q
    by_cases z : q = p
    · rw [if_pos z, if_pos z]
    · rw [if_neg z, if_neg z, sP_n z]
  exact congrArg (fun P => mkV V.W V.T V.M V.C V.U V.R P) this
theorem sP_sR_sP {p r : Nat} {g g' : Pg} : ((V.sP p g).sR r).sP p g' = (V.sR r).sP p g' := by
  have : (fun q => if q = p then g' else ((V.sP p g).sR r).P q) = (fun q => if q = p then g' else (V.sR r).P q) := by
    funext q
    by_cases z : q = p
    · rw [if_pos z, if_pos z]
    · rw [if_neg z, if_neg z]
      show (V.sP p g).P q = V.P q
      exact sP_n z
  exact congrArg (fun P => mkV V.W V.T V.M V.C V.U r P) this
theorem At23 : At 23 := ⟨by omega, by omega⟩
/-- writing a page leaves the tree's own cells -/
theorem Dp.at {k x : Nat} (h : Ts σ E L V) (ha : L[k]? = some a) (d : Dp a σ σ1) (hx : At x) : (∀ i, σ1.fi i x = σ.fi i x) ∧ (∀ i, σ1.fr i x = σ.fr i x) ∧ σ1.ar x = σ.ar x := by
  have la := h.2.2.2.1.pg ha
  have n := h.2.2.2.2.1
  unfold At at hx
  have q := d.1.2.2 x (by omega) (fun q => by unfold Ap at q; omega)
  exact ⟨q.1, q.2.1, q.2.2.1⟩
set_option maxHeartbeats 1000000 in
theorem c_up156 {F p q k m : Nat} (h : Ts σ E L V) (hv : Vw V) (hp : p < V.U) (ha : L[p]? = some a) (hq : q < V.U) (hb : L[q]? = some b) (hqp : q ≠ p) (hes : ∀ e ∈ (V.P p).es, hs V e.1 ∧ e.2.1 ≤ 9000) (ov : V.C < (V.P p).es.length) (hk : k < (V.P q).es.length) (h7 : (V.P q).es.length < 7) (hl : (V.P q).lf = false) (r24 : σ.ar 24 m = nI q) (r25 : σ.ar 25 m = nI k) (hm : m < 40) (hU : V.U < 900) : ∃ σ' E' L', kX9_insert_156 (F + 1) 23 (nI p) a (nI m) σ = kX9_insert_156 F 23 (nI q) b (nI m + (-1)) σ' ∧ Ts σ' E' L' (splV V p q k) ∧ Tq σ E L σ' E' L' ∧ σ'.ar 24 = σ.ar 24 ∧ σ'.ar 25 = σ.ar 25 := by
  have pc := h.1.2.2.2.2.2.2 p a hp ha
  have l7 := pc.le
  have hC := hv.2.2.1
  have ks := h.2.1.1
  have ap : ∀ s : Hp, Tv s V → s.ar 24 = σ.ar 24 → ald s 1 24 (nI m) = some (nI q) := fun s ts e => by rw [ald_ok ts.1.2.2.2.2.1 (by rw [ts.1.2.2.2.2.2.1]; exact hm) (by omega), e, r24]
  have ae : ∀ s : Hp, Tv s V → s.ar 25 = σ.ar 25 → ald s 1 25 (nI m) = some (nI k) := fun s ts e => by rw [ald_ok ts.1.2.2.2.2.2.2.1 (by rw [ts.1.2.2.2.2.2.2.2.1]; exact hm) (by omega), e, r25]
  rw [kX9_insert_156.eq_2, if_neg (nI_pos (by omega)), pc.n, bind_s, h.2.1.st, bind_s, h.1.cp, bind_s, if_neg (nI_ge ov (by omega)), bind_s, h.2.1.pp, bind_s, ap σ h.2.1 rfl, bind_s, h.1.cs, h.1.at hq hb, bind_s, ckd_ok ks.1]
  obtain ⟨s1, E1, L1, g1, g2, g3, ⟨g4, g5⟩, g6, g7, g8, g9, g10⟩ := c_split h hv hp ha hes (by omega) hU
  rw [g1, bind_s]
  obtain ⟨W, hW⟩ : ∃ W, W = spV V p := ⟨_, rfl⟩
  rw [← hW] at g2
  have wU : W.U = V.U + 1 := by rw [hW]; rfl
  have wW : V.W = W.W := by rw [hW]; rfl
  have wT : V.T = W.T := by rw [hW]; rfl
  have wM : V.M = W.M := by rw [hW]; rfl
  have wq : W.P q = V.P q := by
    rw [hW]
    unfold spV
    rw [sP_n hqp, sP_n (by omega)]
    rfl
  have tv1 : Tv s1 V := g2.2.1.cg wW wT wM
  have hb1 : L1[q]? = some b := g3.2.2.1 q b hb
  have q1 : q < W.U := by omega
  have pcq : PC s1 b (V.P q) := by rw [← wq]; exact g2.1.2.2.2.2.2.2 q b q1 hb1
  rw [tv1.pe, bind_s, ae s1 tv1 g5, bind_s, gfi_ok tv1.1.1, g8, bind_s, gfi_ok tv1.1.1, g6, bind_s, ckd_ok pcq.1.1]
  obtain ⟨s2, k1, k2, k3⟩ := c_setEntry pcq (k := k) (t := tg (V.P p).es (bst V (V.P p).es).1) (r := re1 V (V.P p)) (b := p) (vb := nI p) hk (fun _ => rfl)
  rw [k1, bind_s]
  have at2 := fun x => Dp.at (x := x) g2 hb1 k3
  obtain ⟨t2, q2⟩ := g2.pg q1 hb1 k3 k2
  have tv2 : Tv s2 V := t2.2.1.cg wW wT wM
  rw [tv2.pe, bind_s, ae s2 tv2 (((at2 25 ⟨by omega, by omega⟩).2.2).trans g5), bind_s, gfi_ok tv2.1.1, (at2 23 At23).1, g9, bind_s, gfi_ok tv2.1.1, (at2 23 At23).1, g7, bind_s, gfi_ok tv2.1.1, (at2 23 At23).1, g10, bind_s, ckd_ok k2.1.1, nI_1]
  obtain ⟨s3, m1, m2, m3⟩ := c_insertEntry k2 (k := k + 1) (t := tg (V.P p).es (bst V (V.P p).es).2.1) (r := re2 V (V.P p)) (b := V.U) (vb := nI V.U) (by show k + 1 ≤ ((V.P q).es.set k _).length; rw [List.length_set]; omega) (by show ((V.P q).es.set k _).length < 7; rw [List.length_set]; omega) (fun _ => rfl)
  rw [m1, bind_s]
  have m2 : PC s3 b (spQ V p q k) := by
    unfold spQ
    rw [← hl]
    exact m2
  have at3 := fun x => Dp.at (x := x) t2 hb1 m3
  obtain ⟨t3, q3⟩ := t2.pg (p := q) q1 hb1 m3 m2
  have tv3 : Tv s3 V := t3.2.1.cg wW wT wM
  have e24 : s3.ar 24 = σ.ar 24 := ((at3 24 ⟨by omega, by omega⟩).2.2).trans (((at2 24 ⟨by omega, by omega⟩).2.2).trans g4)
  have e25 : s3.ar 25 = σ.ar 25 := ((at3 25 ⟨by omega, by omega⟩).2.2).trans (((at2 25 ⟨by omega, by omega⟩).2.2).trans g5)
  rw [tv3.pp, bind_s, ap s3 tv3 e24, bind_s]
  rw [sP_sP] at t3
  refine ⟨s3, E1, L1, rfl, ?_, (g3.tr q2).tr q3, e24, e25⟩
  unfold splV
  rw [← hW]
  exact t3
set_option maxHeartbeats 1000000 in
theorem c_root260 (h : Ts σ E L V) (hv : Vw V) (hp : V.R < V.U) (ha : L[V.R]? = some a) (hes : ∀ e ∈ (V.P V.R).es, hs V e.1 ∧ e.2.1 ≤ 9000) (ov : V.C < (V.P V.R).es.length) (hU : V.U < 890) : ∃ σ' E' L', kX9_insert_260 23 (nI V.R) a σ = some σ' ∧ Ts σ' E' L' (sprV V) ∧ Tq σ E L σ' E' L' := by
  have pc := h.1.2.2.2.2.2.2 V.R a hp ha
  have l7 := pc.le
  have hC := hv.2.2.1
  unfold kX9_insert_260
  rw [pc.n, bind_s, h.2.1.st, bind_s, h.1.cp, bind_s, if_neg (nI_ge ov (by omega)), ckd_ok h.2.1.1.1]
  obtain ⟨s1, E1, L1, g1, g2, g3, ⟨g4, g5⟩, g6, g7, g8, g9, g10⟩ := c_split h hv hp ha hes (by omega) (by omega)
  rw [g1, bind_s]
  obtain ⟨W, hW⟩ : ∃ W, W = spV V V.R := ⟨_, rfl⟩
  rw [← hW] at g2
  have wU : W.U = V.U + 1 := by rw [hW]; rfl
  have wW : V.W = W.W := by rw [hW]; rfl
  have wT : V.T = W.T := by rw [hW]; rfl
  have wM : V.M = W.M := by rw [hW]; rfl
  have tv1 : Tv s1 V := g2.2.1.cg wW wT wM
  rw [ckd_ok tv1.1.1]
  unfold kX9_makeRoot
  rw [tv1.st, bind_s, bind_s, g2.1.cs]
  obtain ⟨s2, E2, L2, k1, k2, k3, k4⟩ := g2.take (l := false) (by rw [wU]; omega)
  have k1 : kX7_takePage s1 3 0 = some (nI W.U, s2) := k1
  rw [k1, bd2_s, pfi_ok k2.1.ks, bind_s]
  obtain ⟨t3, q3⟩ := k2.root W.U
  generalize hs3 : sfi s2 710 3 (nI W.U) = s3 at t3 q3 ⊢
  obtain ⟨W2, hW2⟩ : ∃ W2, W2 = ((W.sU (W.U + 1)).sP W.U (mkP false none [])).sR W.U := ⟨_, rfl⟩
  rw [← hW2] at t3
  have w2U : W2.U = W.U + 1 := by rw [hW2]; rfl
  have w2R : W2.R = W.U := by rw [hW2]; rfl
  have w2W : V.W = W2.W := by rw [hW2]; exact wW
  have w2T : V.T = W2.T := by rw [hW2]; exact wT
  have w2M : V.M = W2.M := by rw [hW2]; exact wM
  have w2P : W2.P W.U = mkP false none [] := by
    rw [hW2]
    show ((W.sU (W.U + 1)).sP W.U (mkP false none [])).P W.U = _
    exact sP_s
  have tv3 : Tv s3 V := t3.2.1.cg w2W w2T w2M
  have lt2 : W.U < W2.U := by omega
  obtain ⟨c, hc1, hc2, hc3⟩ := t3.1.pg lt2
  rw [w2P] at hc2
  have rt : gfi s3 17 710 3 = some (nI W.U) := by rw [t3.1.rt, w2R]
  have at3 : ∀ i, s3.fi i 23 = s1.fi i 23 := fun i => by rw [← hs3, fi_sfi, if_neg (by omega)]; exact (k4 23 At23).1 i
  rw [tv3.st, bind_s, bind_s, rt, bind_s, t3.1.cs, hc3, bind_s, gfi_ok tv3.1.1, at3, g8, bind_s, gfi_ok tv3.1.1, at3, g6, bind_s, ckd_ok hc2.1.1]
  obtain ⟨s4, m1, m2, m3⟩ := c_insertEntry hc2 (k := 0) (t := tg (V.P V.R).es (bst V (V.P V.R).es).1) (r := re1 V (V.P V.R)) (b := V.R) (vb := nI V.R) (Nat.zero_le _) (by show 0 < 7; omega) (fun _ => rfl)
  have m1 : kX3_insertEntry s3 c 0 (nI (tg (V.P V.R).es (bst V (V.P V.R).es).1)) (nI (re1 V (V.P V.R))) (nI V.R) = some s4 := m1
  rw [m1, bind_s]
  have m2 : PC s4 c (mkP false none [(tg (V.P V.R).es (bst V (V.P V.R).es).1, re1 V (V.P V.R), V.R)]) := m2
  have at4 := fun x => Dp.at (x := x) t3 hc1 m3
  obtain ⟨t4, q4⟩ := t3.pg lt2 hc1 m3 m2
  have tv4 : Tv s4 V := t4.2.1.cg w2W w2T w2M
  rw [gfi_ok tv4.1.1, (at4 23 At23).1, at3, g9, bind_s, gfi_ok tv4.1.1, (at4 23 At23).1, at3, g7, bind_s, gfi_ok tv4.1.1, (at4 23 At23).1, at3, g10, bind_s, ckd_ok m2.1.1]
  obtain ⟨s5, o1, o2, o3⟩ := c_insertEntry m2 (k := 1) (t := tg (V.P V.R).es (bst V (V.P V.R).es).2.1) (r := re2 V (V.P V.R)) (b := V.U) (vb := nI V.U) (Nat.le_refl 1) (by show 1 < 7; omega) (fun _ => rfl)
  have o1 : kX3_insertEntry s4 c 1 (nI (tg (V.P V.R).es (bst V (V.P V.R).es).2.1)) (nI (re2 V (V.P V.R))) (nI V.U) = some s5 := o1
  rw [o1, bind_s, bind_s]
  have o2 : PC s5 c (mkP false none [(tg (V.P V.R).es (bst V (V.P V.R).es).1, re1 V (V.P V.R), V.R), (tg (V.P V.R).es (bst V (V.P V.R).es).2.1, re2 V (V.P V.R), V.U)]) := o2
  have lt4 : W.U < (W2.sP W.U (mkP false none [(tg (V.P V.R).es (bst V (V.P V.R).es).1, re1 V (V.P V.R), V.R)])).U := lt2
  obtain ⟨t5, q5⟩ := t4.pg lt4 hc1 o3 o2
  refine ⟨s5, E2, L2, rfl, ?_, (((g3.tr k3).tr q3).tr q4).tr q5⟩
  rw [sP_sP, hW2, sP_sR_sP] at t5
  unfold sprV
  rw [← hW]
  rw [wU] at t5
  exact t5
end CUP
