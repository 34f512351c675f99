section NEW2
variable {σ0 σ σ' σ1 : Hp} {s t n u l : Nat} {F : Nat → Nat} {I : Nat → Int32} {A : Nat → Prop}
/-- the first element of an empty list -/
theorem Lv.add0 (h : Lv σ l 1 []) (hw : Wn σ) {a : Nat} (ha : σ.kd a = 13 ∨ σ.kd a = 17) (hn : σ.nx + 1 ≤ NXc) (hu : σ.us + 10 ≤ UXc) : ∃ σ', kJx4a65c_add_9ea2d σ l a = some (1, σ') ∧ Df (fun x => x = l) σ σ' ∧ σ'.nx = σ.nx + 1 ∧ σ'.us = σ.us + 10 := by
  obtain ⟨⟨h1, h2, h3, h4⟩, h5, h6⟩ := id h
  have z : σ.kd 1 = 5 ∧ σ.ln 1 = 0 := by
    rcases h5 with q | q
    · exact ⟨q.2.1, q.2.2.1⟩
    · exact absurd rfl q.2.2.2.2
  have hln := hw.lt h1
  unfold kJx4a65c_add_9ea2d
  rw [gfi_ok h1, bind_s, pfi_ok h1, bind_s]
  generalize hσ0 : sfi σ 1200 l _ = σ0
  have h0 : Lv σ0 l 1 [] := by
    rw [← hσ0]
    exact ⟨⟨h1, h2, by rw [fi_sfi, if_neg (by omega)]; exact h3, h4⟩, h5, h6⟩
  have n0 : σ0.nx = σ.nx := by rw [← hσ0]; rfl
  have u0 : σ0.us = σ.us := by rw [← hσ0]; rfl
  have k0 : σ0.kd = σ.kd := by rw [← hσ0]; rfl
  have l0 : σ0.ln = σ.ln := by rw [← hσ0]; rfl
  have d0 : Df (fun x => x = l) σ σ0 := by rw [← hσ0]; exact Df.xi rfl
  have ne : l ≠ σ0.nx := by omega
  have e10 : (10 : Int32) = nI 10 := rfl
  rw [h0.el, bind_s, h0.sz, bind_s, h0.c]
  unfold kJx4a65c_add_72be8 kJx4a65c_grow_d5877 kJx4a65c_grow_92f84
  rw [aln_ok h0.kE', bind_s, l0, z.2, if_pos (show nI ([] : List Nat).length = nI 0 from rfl), h0.c, h0.sz, bind_s, h0.c, h0.el, bind_s, aln_ok h0.kE', bind_s, l0, z.2, nI_1, if_neg (by decide), bind_s, if_pos rfl, if_neg (by decide), e10, nwR_ok (by decide) (by omega) (by omega), bd2_s]
  have kl : (hR σ0 10).kd l = 22 := by
    show upr σ0.kd σ0.nx 3 l = 22
    rw [upr_n ne]; exact h0.1.1
  have kn : (sfr (hR σ0 10) 1201 l σ0.nx).kd σ0.nx = 3 := upr_s
  have lnn : (sfr (hR σ0 10) 1201 l σ0.nx).ln σ0.nx = 10 := upr_s
  have ka : (sfr (hR σ0 10) 1201 l σ0.nx).kd a = σ.kd a := by
    have : a < σ0.nx := by rw [n0]; exact hw.2 a (by omega)
    show upr σ0.kd σ0.nx 3 a = _
    rw [upr_n (by omega), k0]
  rw [pfr_ok kl, bind_s, bd2_s, bd2_s]
  unfold kJx4a65c_add_72be8_11
  rw [rst_ok (k := ([] : List Nat).length) kn (by rw [lnn]; decide) (by decide) (by rw [ka]; exact Or.inr ha), bind_s, pfi_ok (by rw [kd_srw, kd_sfr]; exact kl), bind_s, bind_s, zb_1, bind_s]
  refine ⟨_, rfl, ?_, ?_, ?_⟩
  · have d1 : Df (fun x => x = l) σ (sfr (hR σ0 10) 1201 l σ0.nx) := d0.tr ((Df.nR).tr (Df.xr rfl))
    have d2 : Df (fun x => x = l ∨ x = σ0.nx) (sfr (hR σ0 10) 1201 l σ0.nx) (srw (sfr (hR σ0 10) 1201 l σ0.nx) σ0.nx (fun j => if j = ([] : List Nat).length then a else (sfr (hR σ0 10) 1201 l σ0.nx).rr σ0.nx j)) := Df.xe (Or.inr rfl)
    exact (d1.trans d2 (fun x hx q => by omega)).tr (Df.xi rfl)
  · show σ0.nx + 1 = _
    omega
  · show σ0.us + 10 = _
    omega
theorem newState_nx (hw : Wn σ) (k1 : σ.kd 1 = 5) (l1 : σ.ln 1 = 0) (hn : σ.nx + 20 ≤ NXc) (hu : σ.us + 3000 ≤ UXc) : ∃ σ1 σ2, nwO σ 7 13 = some (σ.nx, σ1) ∧ kX7_init σ1 σ.nx = some σ2 ∧ Df (fun _ => False) σ σ1 ∧ Df (fun _ => False) σ σ2 ∧ σ2.nx = σ.nx + 11 ∧ σ2.us = σ.us + 149 := by
  have n2 := hw.1
  have nz0 : σ.nx ≠ 0 := by omega
  generalize hN : σ.nx = N at *
  obtain ⟨c1, b0⟩ := Bn.new hw 7 13 (by omega) (by omega)
  rw [hN] at c1 b0
  have b0 : Bn σ (hO σ 7 13) N 17 (N + 1) (σ.us + 13) (fun _ => 0) (fun _ => 0) := b0
  refine ⟨hO σ 7 13, ?_⟩
  obtain ⟨s1, f1, b1, q1, q2, d1, q3⟩ := b0.arr 1 40 700 (by omega) (by omega) (by omega)
  obtain ⟨s2, f2, b2, q4, q5, d2, q6⟩ := b1.arr 1 16 702 (by omega) (by omega) (by omega)
  obtain ⟨s3, f3, b3, q7, q8, d3, q9⟩ := b2.arr 1 16 703 (by omega) (by omega) (by omega)
  obtain ⟨s4, f4, b4, q10, q11, d4, q12⟩ := b3.arr 1 16 704 (by omega) (by omega) (by omega)
  obtain ⟨s5, f5, b5, d5⟩ := b4.fi 706 0
  obtain ⟨s6, f6, b6, d6⟩ := b5.fi 707 4
  have one6 := b6.2.1.2.1 1 (hw.lt k1)
  obtain ⟨s7, f7, b7, lv7, d7⟩ := b6.list 708 (one6.1.trans k1) (one6.2.trans l1) (by omega) (by omega)
  obtain ⟨s8, f8, b8, d8⟩ := b7.fi 709 1
  have n8 : s8.nx = N + 6 := b8.2.2.1
  have u8 := b8.2.2.2.1
  obtain ⟨s9, s10, g1, g2, g3, g4, g5, g6, g7⟩ := c_newPage b8.1 (by omega) (by omega)
  rw [n8] at g1 g2 g3 g6
  have b10 := b8.go g4 g5
  have lv8 : Lv s8 (N + 5) 1 [] := lv7.df b7.1 d8 (by omega) (fun z => absurd rfl z)
  have lv10 : Lv s10 (N + 5) 1 [] := lv8.df b8.1 g5 (fun z => z) (fun z => absurd rfl z)
  obtain ⟨s11, m1, m2, m3, m4⟩ := lv10.add0 g4 (Or.inl g3.1.1) (by omega) (by omega)
  refine ⟨s11, c1, ?_, b0.2.1, b10.2.1.fls m2 (by omega), by omega, by omega⟩
  unfold kX7_init
  rw [nz_ok nz0, bind_s, show (40 : Int32) = nI 40 from rfl, show (16 : Int32) = nI 16 from rfl, f1, f2, f3, f4, f5, f6, f7, f8, gfr_ok b8.2.2.2.2.2.2.1, b8.2.2.2.2.2.2.2.1, bind_s, g1, bd2_s, nz_ok (by omega), bind_s, g2, bind_s]
  show ckd s10 (N + 5) 22 (bd2 (kJx4a65c_add_9ea2d s10 (N + 5) (N + 6)) _) = _
  rw [lv10.c, m1, bd2_s]
/-- a fresh state, and what it takes -/
theorem newState2 (hw : Wn σ) (k1 : σ.kd 1 = 5) (l1 : σ.ln 1 = 0) (hn : σ.nx + 20 ≤ NXc) (hu : σ.us + 3000 ≤ UXc) : ∃ σ1 σ2, nwO σ 7 13 = some (σ.nx, σ1) ∧ kX7_init σ1 σ.nx = some σ2 ∧ St σ2 σ.nx (σ.nx + 10) [σ.nx + 6] V00 ∧ Wn σ2 ∧ Df (fun _ => False) σ σ2 ∧ σ2.nx = σ.nx + 11 ∧ σ2.us = σ.us + 149 := by
  obtain ⟨a1, a2, b1, b2, b3, b4, b5, b6⟩ := newState_nx hw k1 l1 hn hu
  obtain ⟨c1, c2, d1, d2, d3, d4, -⟩ := c_newState hw k1 l1 hn hu
  rw [b1] at d1
  cases d1
  rw [b2] at d2
  cases d2
  exact ⟨a1, a2, b1, b2, d3, d4, b4, b5, b6⟩
/-- a row -/
def Ro (σ : Hp) (a t k : Nat) : Prop := σ.kd a = t ∧ σ.ln a = k
theorem Ro.df {a k : Nat} (h : Ro σ a t k) (hw : Wn σ) (d : Df A σ σ') (ht : t ≠ 0 := by decide) : Ro σ' a t k := by
  have q := d.2.1 a (hw.lt h.1 ht)
  exact ⟨q.1.trans h.1, q.2.trans h.2⟩
theorem c_fillN {a m : Nat} {v : Int32} (hm : m < 100000) (ka : σ.kd a = 1) (la : σ.ln a = m) : ∃ s, kJ7_fill_53178 σ a v = some s ∧ Dn (fun x => x = a) σ s ∧ s.fi = σ.fi := by
  unfold kJ7_fill_53178
  rw [aln_ok (Or.inl ka), bind_s, la]
  have fl : ∀ (d F k : Nat) (u : Hp), d < F → k + d = m → Dn (fun x => x = a) σ u → u.fi = σ.fi → ∃ s, kJ7_fill_53178_5 F a v (nI k) (nI m) u = some s ∧ Dn (fun x => x = a) σ s ∧ s.fi = σ.fi := by
    intro d
    induction d with
    | zero =>
      intro F k u hF hk h1 h2
      obtain ⟨F, rfl⟩ : ∃ G, F = G + 1 := ⟨F - 1, by omega⟩
      rw [kJ7_fill_53178_5.eq_2, if_pos (nI_le (by omega) (by omega))]
      exact ⟨u, rfl, h1, h2⟩
    | succ d ih =>
      intro F k u hF hk h1 h2
      obtain ⟨F, rfl⟩ : ∃ G, F = G + 1 := ⟨F - 1, by omega⟩
      rw [kJ7_fill_53178_5.eq_2, if_neg (nI_ge (by omega) (by omega)), ast_saw (by rw [h1.1.1]; exact ka) (by rw [h1.1.2.1, la]; omega) (by omega), bind_s, nI_1]
      exact ih F (k + 1) _ (by omega) (by omega) (h1.xa' rfl) (by rw [fi_saw]; exact h2)
  exact fl m FU 0 σ (FU_gt (by omega)) (by omega) Dn.rfl rfl
set_option maxHeartbeats 1000000 in
theorem n_meas (hw : Wn σ) (k1 : σ.kd 1 = 5) (l1 : σ.ln 1 = 0) (hN : σ.nx = 14) (hU : σ.us = 159) : ∃ σ1 σ2, nwO σ 2 4 = some (14, σ1) ∧ kX2_init σ1 14 = some σ2 ∧ Df (fun _ => False) σ σ1 ∧ Bn σ σ2 14 12 19 189 (uF (uF (uF (uF (fun _ => 0) 200 15) 201 16) 202 17) 203 18) (fun _ => 0) ∧ Ro σ2 15 1 6 ∧ Ro σ2 16 1 6 ∧ Ro σ2 17 1 7 ∧ Ro σ2 18 1 7 := by
  have nxc : NXc = 600002 := rfl
  have uxc : UXc = 7302250 := rfl
  obtain ⟨c1, b0⟩ := Bn.new hw 2 4 (by omega) (by omega)
  rw [hN, hU] at b0
  rw [hN] at c1
  have b0 : Bn σ (hO σ 2 4) 14 12 15 163 (fun _ => 0) (fun _ => 0) := b0
  obtain ⟨s1, f1, b1, q1, p1, d1, z1⟩ := b0.arr 1 6 200 (by omega) (by omega) (by omega)
  have b1 : Bn σ s1 14 12 16 169 (uF (fun _ => 0) 200 15) (fun _ => 0) := b1
  have r15 : Ro s1 15 1 6 := ⟨q1, p1⟩
  obtain ⟨s2, f2, b2, q2, p2, d2, z2⟩ := b1.arr 1 6 201 (by omega) (by omega) (by omega)
  have b2 : Bn σ s2 14 12 17 175 (uF (uF (fun _ => 0) 200 15) 201 16) (fun _ => 0) := b2
  have r15 := r15.df b1.1 d2
  have r16 : Ro s2 16 1 6 := ⟨q2, p2⟩
  obtain ⟨s3, f3, b3, q3, p3, d3, z3⟩ := b2.arr 1 7 202 (by omega) (by omega) (by omega)
  have b3 : Bn σ s3 14 12 18 182 (uF (uF (uF (fun _ => 0) 200 15) 201 16) 202 17) (fun _ => 0) := b3
  have r15 := r15.df b2.1 d3
  have r16 := r16.df b2.1 d3
  have r17 : Ro s3 17 1 7 := ⟨q3, p3⟩
  obtain ⟨s4, f4, b4, q4, p4, d4, z4⟩ := b3.arr 1 7 203 (by omega) (by omega) (by omega)
  have b4 : Bn σ s4 14 12 19 189 (uF (uF (uF (uF (fun _ => 0) 200 15) 201 16) 202 17) 203 18) (fun _ => 0) := b4
  have r15 := r15.df b3.1 d4
  have r16 := r16.df b3.1 d4
  have r17 := r17.df b3.1 d4
  have r18 : Ro s4 18 1 7 := ⟨q4, p4⟩
  refine ⟨hO σ 2 4, s4, c1, ?_, b0.2.1, b4, r15, r16, r17, r18⟩
  unfold kX2_init
  rw [nz_ok (by decide), bind_s, show (6 : Int32) = nI 6 from rfl, show (7 : Int32) = nI 7 from rfl, f1, f2, f3, f4]
set_option maxHeartbeats 1000000 in
theorem n_tree (hw : Wn σ) (k1 : σ.kd 1 = 5) (l1 : σ.ln 1 = 0) (hN : σ.nx = 23) (hU : σ.us = 1851) : ∃ σ1 σ2, nwO σ 9 10 = some (23, σ1) ∧ kX9_init σ1 23 3 19 = some σ2 ∧ Df (fun _ => False) σ σ1 ∧ Bn σ σ2 23 19 27 1948 (uF (uF (uF (uF (uF (fun _ => 0) 902 24) 903 25) 904 26) 900 3) 901 19) (fun _ => 0) ∧ Ro σ2 24 1 40 ∧ Ro σ2 25 1 40 ∧ Ro σ2 26 2 7 := by
  have nxc : NXc = 600002 := rfl
  have uxc : UXc = 7302250 := rfl
  obtain ⟨c1, b0⟩ := Bn.new hw 9 10 (by omega) (by omega)
  rw [hN, hU] at b0
  rw [hN] at c1
  have b0 : Bn σ (hO σ 9 10) 23 19 24 1861 (fun _ => 0) (fun _ => 0) := b0
  obtain ⟨s1, f1, b1, q1, p1, d1, z1⟩ := b0.arr 1 40 902 (by omega) (by omega) (by omega)
  have b1 : Bn σ s1 23 19 25 1901 (uF (fun _ => 0) 902 24) (fun _ => 0) := b1
  have r24 : Ro s1 24 1 40 := ⟨q1, p1⟩
  obtain ⟨s2, f2, b2, q2, p2, d2, z2⟩ := b1.arr 1 40 903 (by omega) (by omega) (by omega)
  have b2 : Bn σ s2 23 19 26 1941 (uF (uF (fun _ => 0) 902 24) 903 25) (fun _ => 0) := b2
  have r24 := r24.df b1.1 d2
  have r25 : Ro s2 25 1 40 := ⟨q2, p2⟩
  obtain ⟨s3, f3, b3, q3, p3, d3, z3⟩ := b2.arr 2 7 904 (by omega) (by omega) (by omega)
  have b3 : Bn σ s3 23 19 27 1948 (uF (uF (uF (fun _ => 0) 902 24) 903 25) 904 26) (fun _ => 0) := b3
  have r24 := r24.df b2.1 d3
  have r25 := r25.df b2.1 d3
  have r26 : Ro s3 26 2 7 := ⟨q3, p3⟩
  obtain ⟨s4, f4, b4, d4⟩ := b3.fr 900 3
  have b4 : Bn σ s4 23 19 27 1948 (uF (uF (uF (uF (fun _ => 0) 902 24) 903 25) 904 26) 900 3) (fun _ => 0) := b4
  have r24 := r24.df b3.1 d4
  have r25 := r25.df b3.1 d4
  have r26 := r26.df b3.1 d4
  obtain ⟨s5, f5, b5, d5⟩ := b4.fr 901 19
  have b5 : Bn σ s5 23 19 27 1948 (uF (uF (uF (uF (uF (fun _ => 0) 902 24) 903 25) 904 26) 900 3) 901 19) (fun _ => 0) := b5
  have r24 := r24.df b4.1 d5
  have r25 := r25.df b4.1 d5
  have r26 := r26.df b4.1 d5
  refine ⟨hO σ 9 10, s5, c1, ?_, b0.2.1, b5, r24, r25, r26⟩
  unfold kX9_init
  rw [nz_ok (by decide), bind_s, show (7 : Int32) = nI 7 from rfl, show (40 : Int32) = nI 40 from rfl, f1, f2, f3, f4, f5]
set_option maxHeartbeats 1000000 in
theorem n_walk (hw : Wn σ) (k1 : σ.kd 1 = 5) (l1 : σ.ln 1 = 0) (hN : σ.nx = 27) (hU : σ.us = 1948) : ∃ σ1 σ2, nwO σ 10 3 = some (27, σ1) ∧ kX10_init σ1 27 3 19 = some σ2 ∧ Df (fun _ => False) σ σ1 ∧ Bn σ σ2 27 20 29 1954 (uF (uF (uF (fun _ => 0) 1002 28) 1000 3) 1001 19) (fun _ => 0) ∧ Lv σ2 28 1 [] := by
  have nxc : NXc = 600002 := rfl
  have uxc : UXc = 7302250 := rfl
  obtain ⟨c1, b0⟩ := Bn.new hw 10 3 (by omega) (by omega)
  rw [hN, hU] at b0
  rw [hN] at c1
  have b0 : Bn σ (hO σ 10 3) 27 20 28 1951 (fun _ => 0) (fun _ => 0) := b0
  have o1 := b0.2.1.2.1 1 (hw.lt k1)
  obtain ⟨s1, f1, b1, v1, d1⟩ := b0.list 1002 (o1.1.trans k1) (o1.2.trans l1) (by omega) (by omega)
  have b1 : Bn σ s1 27 20 29 1954 (uF (fun _ => 0) 1002 28) (fun _ => 0) := b1
  have v28 : Lv s1 28 1 [] := v1
  obtain ⟨s2, f2, b2, d2⟩ := b1.fr 1000 3
  have b2 : Bn σ s2 27 20 29 1954 (uF (uF (fun _ => 0) 1002 28) 1000 3) (fun _ => 0) := b2
  have v28 := v28.df b1.1 d2 (by omega) (fun z => absurd rfl z)
  obtain ⟨s3, f3, b3, d3⟩ := b2.fr 1001 19
  have b3 : Bn σ s3 27 20 29 1954 (uF (uF (uF (fun _ => 0) 1002 28) 1000 3) 1001 19) (fun _ => 0) := b3
  have v28 := v28.df b2.1 d3 (by omega) (fun z => absurd rfl z)
  refine ⟨hO σ 10 3, s3, c1, ?_, b0.2.1, b3, v28⟩
  unfold kX10_init
  rw [nz_ok (by decide), bind_s, f1, f2, f3]
set_option maxHeartbeats 1000000 in
theorem n_search (hw : Wn σ) (k1 : σ.kd 1 = 5) (l1 : σ.ln 1 = 0) (hN : σ.nx = 29) (hU : σ.us = 1954) : ∃ σ1 σ2, nwO σ 6 18 = some (29, σ1) ∧ kX6_init σ1 29 3 19 14 = some σ2 ∧ Df (fun _ => False) σ σ1 ∧ Bn σ σ2 29 16 33 2092 (uF (uF (uF (uF (uF (uF (fun _ => 0) 610 30) 611 31) 612 32) 600 3) 601 19) 602 14) (uI (fun _ => 0) 604 (-1)) ∧ Ro σ2 30 1 40 ∧ Ro σ2 31 1 40 ∧ Ro σ2 32 1 40 := by
  have nxc : NXc = 600002 := rfl
  have uxc : UXc = 7302250 := rfl
  obtain ⟨c1, b0⟩ := Bn.new hw 6 18 (by omega) (by omega)
  rw [hN, hU] at b0
  rw [hN] at c1
  have b0 : Bn σ (hO σ 6 18) 29 16 30 1972 (fun _ => 0) (fun _ => 0) := b0
  obtain ⟨s1, f1, b1, d1⟩ := b0.fi 604 (-1)
  have b1 : Bn σ s1 29 16 30 1972 (fun _ => 0) (uI (fun _ => 0) 604 (-1)) := b1
  obtain ⟨s2, f2, b2, q2, p2, d2, z2⟩ := b1.arr 1 40 610 (by omega) (by omega) (by omega)
  have b2 : Bn σ s2 29 16 31 2012 (uF (fun _ => 0) 610 30) (uI (fun _ => 0) 604 (-1)) := b2
  have r30 : Ro s2 30 1 40 := ⟨q2, p2⟩
  obtain ⟨s3, f3, b3, q3, p3, d3, z3⟩ := b2.arr 1 40 611 (by omega) (by omega) (by omega)
  have b3 : Bn σ s3 29 16 32 2052 (uF (uF (fun _ => 0) 610 30) 611 31) (uI (fun _ => 0) 604 (-1)) := b3
  have r30 := r30.df b2.1 d3
  have r31 : Ro s3 31 1 40 := ⟨q3, p3⟩
  obtain ⟨s4, f4, b4, q4, p4, d4, z4⟩ := b3.arr 1 40 612 (by omega) (by omega) (by omega)
  have b4 : Bn σ s4 29 16 33 2092 (uF (uF (uF (fun _ => 0) 610 30) 611 31) 612 32) (uI (fun _ => 0) 604 (-1)) := b4
  have r30 := r30.df b3.1 d4
  have r31 := r31.df b3.1 d4
  have r32 : Ro s4 32 1 40 := ⟨q4, p4⟩
  obtain ⟨s5, f5, b5, d5⟩ := b4.fr 600 3
  have b5 : Bn σ s5 29 16 33 2092 (uF (uF (uF (uF (fun _ => 0) 610 30) 611 31) 612 32) 600 3) (uI (fun _ => 0) 604 (-1)) := b5
  have r30 := r30.df b4.1 d5
  have r31 := r31.df b4.1 d5
  have r32 := r32.df b4.1 d5
  obtain ⟨s6, f6, b6, d6⟩ := b5.fr 601 19
  have b6 : Bn σ s6 29 16 33 2092 (uF (uF (uF (uF (uF (fun _ => 0) 610 30) 611 31) 612 32) 600 3) 601 19) (uI (fun _ => 0) 604 (-1)) := b6
  have r30 := r30.df b5.1 d6
  have r31 := r31.df b5.1 d6
  have r32 := r32.df b5.1 d6
  obtain ⟨s7, f7, b7, d7⟩ := b6.fr 602 14
  have b7 : Bn σ s7 29 16 33 2092 (uF (uF (uF (uF (uF (uF (fun _ => 0) 610 30) 611 31) 612 32) 600 3) 601 19) 602 14) (uI (fun _ => 0) 604 (-1)) := b7
  have r30 := r30.df b6.1 d7
  have r31 := r31.df b6.1 d7
  have r32 := r32.df b6.1 d7
  refine ⟨hO σ 6 18, s7, c1, ?_, b0.2.1, b7, r30, r31, r32⟩
  unfold kX6_init
  rw [nz_ok (by decide), bind_s, show (40 : Int32) = nI 40 from rfl, f1, f2, f3, f4, f5, f6, f7]
set_option maxHeartbeats 1000000 in
theorem n_survey (hw : Wn σ) (k1 : σ.kd 1 = 5) (l1 : σ.ln 1 = 0) (hN : σ.nx = 33) (hU : σ.us = 2092) : ∃ σ1 σ2, nwO σ 8 9 = some (33, σ1) ∧ kX8_init σ1 33 3 19 = some σ2 ∧ Df (fun _ => False) σ σ1 ∧ Bn σ σ2 33 18 38 2261 (uF (uF (uF (uF (uF (uF (fun _ => 0) 805 34) 806 35) 807 36) 808 37) 800 3) 801 19) (fun _ => 0) ∧ Ro σ2 34 1 40 ∧ Ro σ2 35 1 40 ∧ Ro σ2 36 1 40 ∧ Ro σ2 37 1 40 := by
  have nxc : NXc = 600002 := rfl
  have uxc : UXc = 7302250 := rfl
  obtain ⟨c1, b0⟩ := Bn.new hw 8 9 (by omega) (by omega)
  rw [hN, hU] at b0
  rw [hN] at c1
  have b0 : Bn σ (hO σ 8 9) 33 18 34 2101 (fun _ => 0) (fun _ => 0) := b0
  obtain ⟨s1, f1, b1, q1, p1, d1, z1⟩ := b0.arr 1 40 805 (by omega) (by omega) (by omega)
  have b1 : Bn σ s1 33 18 35 2141 (uF (fun _ => 0) 805 34) (fun _ => 0) := b1
  have r34 : Ro s1 34 1 40 := ⟨q1, p1⟩
  obtain ⟨s2, f2, b2, q2, p2, d2, z2⟩ := b1.arr 1 40 806 (by omega) (by omega) (by omega)
  have b2 : Bn σ s2 33 18 36 2181 (uF (uF (fun _ => 0) 805 34) 806 35) (fun _ => 0) := b2
  have r34 := r34.df b1.1 d2
  have r35 : Ro s2 35 1 40 := ⟨q2, p2⟩
  obtain ⟨s3, f3, b3, q3, p3, d3, z3⟩ := b2.arr 1 40 807 (by omega) (by omega) (by omega)
  have b3 : Bn σ s3 33 18 37 2221 (uF (uF (uF (fun _ => 0) 805 34) 806 35) 807 36) (fun _ => 0) := b3
  have r34 := r34.df b2.1 d3
  have r35 := r35.df b2.1 d3
  have r36 : Ro s3 36 1 40 := ⟨q3, p3⟩
  obtain ⟨s4, f4, b4, q4, p4, d4, z4⟩ := b3.arr 1 40 808 (by omega) (by omega) (by omega)
  have b4 : Bn σ s4 33 18 38 2261 (uF (uF (uF (uF (fun _ => 0) 805 34) 806 35) 807 36) 808 37) (fun _ => 0) := b4
  have r34 := r34.df b3.1 d4
  have r35 := r35.df b3.1 d4
  have r36 := r36.df b3.1 d4
  have r37 : Ro s4 37 1 40 := ⟨q4, p4⟩
  obtain ⟨s5, f5, b5, d5⟩ := b4.fr 800 3
  have b5 : Bn σ s5 33 18 38 2261 (uF (uF (uF (uF (uF (fun _ => 0) 805 34) 806 35) 807 36) 808 37) 800 3) (fun _ => 0) := b5
  have r34 := r34.df b4.1 d5
  have r35 := r35.df b4.1 d5
  have r36 := r36.df b4.1 d5
  have r37 := r37.df b4.1 d5
  obtain ⟨s6, f6, b6, d6⟩ := b5.fr 801 19
  have b6 : Bn σ s6 33 18 38 2261 (uF (uF (uF (uF (uF (uF (fun _ => 0) 805 34) 806 35) 807 36) 808 37) 800 3) 801 19) (fun _ => 0) := b6
  have r34 := r34.df b5.1 d6
  have r35 := r35.df b5.1 d6
  have r36 := r36.df b5.1 d6
  have r37 := r37.df b5.1 d6
  refine ⟨hO σ 8 9, s6, c1, ?_, b0.2.1, b6, r34, r35, r36, r37⟩
  unfold kX8_init
  rw [nz_ok (by decide), bind_s, show (40 : Int32) = nI 40 from rfl, f1, f2, f3, f4, f5, f6]
set_option maxHeartbeats 1000000 in
theorem n_cmds (hw : Wn σ) (k1 : σ.kd 1 = 5) (l1 : σ.ln 1 = 0) (hN : σ.nx = 53) (hU : σ.us = 2423) : ∃ σ1 σ2, nwO σ 0 10 = some (53, σ1) ∧ kX0_init σ1 53 = some σ2 ∧ Df (fun _ => False) σ σ1 ∧ Bn σ σ2 53 10 58 2958 (uF (uF (uF (uF (fun _ => 0) 0 54) 2 55) 3 56) 4 57) (uI (fun _ => 0) 6 (-1)) ∧ Ro σ2 54 1 300 ∧ Ro σ2 55 1 75 ∧ Ro σ2 56 1 75 ∧ Ro σ2 57 1 75 := by
  have nxc : NXc = 600002 := rfl
  have uxc : UXc = 7302250 := rfl
  obtain ⟨c1, b0⟩ := Bn.new hw 0 10 (by omega) (by omega)
  rw [hN, hU] at b0
  rw [hN] at c1
  have b0 : Bn σ (hO σ 0 10) 53 10 54 2433 (fun _ => 0) (fun _ => 0) := b0
  obtain ⟨s1, f1, b1, q1, p1, d1, z1⟩ := b0.arr 1 300 0 (by omega) (by omega) (by omega)
  have b1 : Bn σ s1 53 10 55 2733 (uF (fun _ => 0) 0 54) (fun _ => 0) := b1
  have r54 : Ro s1 54 1 300 := ⟨q1, p1⟩
  obtain ⟨s2, f2, b2, q2, p2, d2, z2⟩ := b1.arr 1 75 2 (by omega) (by omega) (by omega)
  have b2 : Bn σ s2 53 10 56 2808 (uF (uF (fun _ => 0) 0 54) 2 55) (fun _ => 0) := b2
  have r54 := r54.df b1.1 d2
  have r55 : Ro s2 55 1 75 := ⟨q2, p2⟩
  obtain ⟨s3, f3, b3, q3, p3, d3, z3⟩ := b2.arr 1 75 3 (by omega) (by omega) (by omega)
  have b3 : Bn σ s3 53 10 57 2883 (uF (uF (uF (fun _ => 0) 0 54) 2 55) 3 56) (fun _ => 0) := b3
  have r54 := r54.df b2.1 d3
  have r55 := r55.df b2.1 d3
  have r56 : Ro s3 56 1 75 := ⟨q3, p3⟩
  obtain ⟨s4, f4, b4, q4, p4, d4, z4⟩ := b3.arr 1 75 4 (by omega) (by omega) (by omega)
  have b4 : Bn σ s4 53 10 58 2958 (uF (uF (uF (uF (fun _ => 0) 0 54) 2 55) 3 56) 4 57) (fun _ => 0) := b4
  have r54 := r54.df b3.1 d4
  have r55 := r55.df b3.1 d4
  have r56 := r56.df b3.1 d4
  have r57 : Ro s4 57 1 75 := ⟨q4, p4⟩
  obtain ⟨s5, f5, b5, d5⟩ := b4.fi 6 (-1)
  have b5 : Bn σ s5 53 10 58 2958 (uF (uF (uF (uF (fun _ => 0) 0 54) 2 55) 3 56) 4 57) (uI (fun _ => 0) 6 (-1)) := b5
  have r54 := r54.df b4.1 d5
  have r55 := r55.df b4.1 d5
  have r56 := r56.df b4.1 d5
  have r57 := r57.df b4.1 d5
  refine ⟨hO σ 0 10, s5, c1, ?_, b0.2.1, b5, r54, r55, r56, r57⟩
  unfold kX0_init
  rw [nz_ok (by decide), bind_s, show (75 : Int32) = nI 75 from rfl, show (300 : Int32) = nI 300 from rfl, f1, f2, f3, f4, f5]
set_option maxHeartbeats 1000000 in
theorem n_reps (hw : Wn σ) (k1 : σ.kd 1 = 5) (l1 : σ.ln 1 = 0) (hN : σ.nx = 58) (hU : σ.us = 2958) : ∃ σ1 σ2, nwO σ 5 2 = some (58, σ1) ∧ kX5_init σ1 58 = some σ2 ∧ Df (fun _ => False) σ σ1 ∧ Bn σ σ2 58 15 60 3360 (uF (fun _ => 0) 500 59) (fun _ => 0) ∧ Ro σ2 59 1 400 := by
  have nxc : NXc = 600002 := rfl
  have uxc : UXc = 7302250 := rfl
  obtain ⟨c1, b0⟩ := Bn.new hw 5 2 (by omega) (by omega)
  rw [hN, hU] at b0
  rw [hN] at c1
  have b0 : Bn σ (hO σ 5 2) 58 15 59 2960 (fun _ => 0) (fun _ => 0) := b0
  obtain ⟨s1, f1, b1, q1, p1, d1, z1⟩ := b0.arr 1 400 500 (by omega) (by omega) (by omega)
  have b1 : Bn σ s1 58 15 60 3360 (uF (fun _ => 0) 500 59) (fun _ => 0) := b1
  have r59 : Ro s1 59 1 400 := ⟨q1, p1⟩
  refine ⟨hO σ 5 2, s1, c1, ?_, b0.2.1, b1, r59⟩
  unfold kX5_init
  rw [nz_ok (by decide), bind_s, show (400 : Int32) = nI 400 from rfl, f1]
set_option maxHeartbeats 1000000 in
theorem n_fars (hw : Wn σ) (k1 : σ.kd 1 = 5) (l1 : σ.ln 1 = 0) (hN : σ.nx = 19) (hU : σ.us = 189) : ∃ σ1 σ2, nwO σ 1 6 = some (19, σ1) ∧ kX1_init σ1 19 14 = some σ2 ∧ Df (fun _ => False) σ σ1 ∧ Bn σ σ2 19 11 23 1851 (uF (uF (uF (uF (fun _ => 0) 101 20) 102 21) 104 22) 100 14) (uI (fun _ => 0) 103 0) ∧ Ro σ2 20 1 1600 ∧ Ro σ2 21 1 40 ∧ σ2.ar 21 = (fun _ => 0) ∧ Ro σ2 22 1 16 := by
  have nxc : NXc = 600002 := rfl
  have uxc : UXc = 7302250 := rfl
  obtain ⟨c1, b0⟩ := Bn.new hw 1 6 (by omega) (by omega)
  rw [hN, hU] at b0
  rw [hN] at c1
  have b0 : Bn σ (hO σ 1 6) 19 11 20 195 (fun _ => 0) (fun _ => 0) := b0
  obtain ⟨s1, f1, b1, q1, p1, d1, z1⟩ := b0.arr 1 1600 101 (by omega) (by omega) (by omega)
  have b1 : Bn σ s1 19 11 21 1795 (uF (fun _ => 0) 101 20) (fun _ => 0) := b1
  have r20 : Ro s1 20 1 1600 := ⟨q1, p1⟩
  obtain ⟨s2, f2, b2, q2, p2, d2, z2⟩ := b1.arr 1 40 102 (by omega) (by omega) (by omega)
  have b2 : Bn σ s2 19 11 22 1835 (uF (uF (fun _ => 0) 101 20) 102 21) (fun _ => 0) := b2
  have r20 := r20.df b1.1 d2
  have r21 : Ro s2 21 1 40 := ⟨q2, p2⟩
  have a21 : s2.ar 21 = (fun _ => 0) := z2
  obtain ⟨s3, f3, b3, d3⟩ := b2.fi 103 0
  have b3 : Bn σ s3 19 11 22 1835 (uF (uF (fun _ => 0) 101 20) 102 21) (uI (fun _ => 0) 103 0) := b3
  have r20 := r20.df b2.1 d3
  have r21 := r21.df b2.1 d3
  have a21 : s3.ar 21 = (fun _ => 0) := ((d3.2.2 21 (by rw [b2.2.2.1]; omega) (by omega)).2.2.1).trans a21
  obtain ⟨s4, f4, b4, q4, p4, d4, z4⟩ := b3.arr 1 16 104 (by omega) (by omega) (by omega)
  have b4 : Bn σ s4 19 11 23 1851 (uF (uF (uF (fun _ => 0) 101 20) 102 21) 104 22) (uI (fun _ => 0) 103 0) := b4
  have r20 := r20.df b3.1 d4
  have r21 := r21.df b3.1 d4
  have a21 : s4.ar 21 = (fun _ => 0) := ((d4.2.2 21 (by rw [b3.2.2.1]; omega) (by omega)).2.2.1).trans a21
  have r22 : Ro s4 22 1 16 := ⟨q4, p4⟩
  obtain ⟨s5, f5, b5, d5⟩ := b4.fr 100 14
  have b5 : Bn σ s5 19 11 23 1851 (uF (uF (uF (uF (fun _ => 0) 101 20) 102 21) 104 22) 100 14) (uI (fun _ => 0) 103 0) := b5
  have r20 := r20.df b4.1 d5
  have r21 := r21.df b4.1 d5
  have a21 : s5.ar 21 = (fun _ => 0) := ((d5.2.2 21 (by rw [b4.2.2.1]; omega) (by omega)).2.2.1).trans a21
  have r22 := r22.df b4.1 d5
  obtain ⟨sf, g1, g2, g3⟩ := c_fillN (v := -1) (by omega) r20.1 r20.2
  have wf := g2.wn b5.1
  have df : Df (fun x => x = 20) s5 sf := g2.df
  have bf : Bn σ sf 19 11 23 1851 (uF (uF (uF (uF (fun _ => 0) 101 20) 102 21) 104 22) 100 14) (uI (fun _ => 0) 103 0) := ⟨wf, b5.2.1.fls df (by omega), g2.1.2.2.2.2.1.trans b5.2.2.1, g2.1.2.2.2.2.2.trans b5.2.2.2.1, b5.2.2.2.2.1, b5.2.2.2.2.2.1, by rw [g2.1.1]; exact b5.2.2.2.2.2.2.1, fun j => by rw [g2.1.2.2.1]; exact b5.2.2.2.2.2.2.2.1 j, fun j => by rw [g3]; exact b5.2.2.2.2.2.2.2.2 j⟩
  have r20 := r20.df b5.1 df
  have r21 := r21.df b5.1 df
  have r22 := r22.df b5.1 df
  have a21 : sf.ar 21 = (fun _ => 0) := ((df.2.2 21 (by rw [b5.2.2.1]; omega) (by omega)).2.2.1).trans a21
  refine ⟨hO σ 1 6, sf, c1, ?_, b0.2.1, bf, r20, r21, a21, r22⟩
  unfold kX1_init
  rw [nz_ok (by decide), bind_s, show (16 : Int32) = nI 16 from rfl, show (40 : Int32) = nI 40 from rfl, show (1600 : Int32) = nI 1600 from rfl, f1, f2, f3, f4, f5, gfr_ok b5.2.2.2.2.2.2.1, b5.2.2.2.2.2.2.2.1, bind_s]
  show (kJ7_fill_53178 s5 20 (-1)).bind _ = _
  rw [g1, bind_s]
set_option maxHeartbeats 1000000 in
theorem n_past (hw : Wn σ) (k1 : σ.kd 1 = 5) (l1 : σ.ln 1 = 0) (hN : σ.nx = 38) (hU : σ.us = 2261) : ∃ σ1 σ2, nwO σ 4 4 = some (38, σ1) ∧ kX4_init σ1 38 = some σ2 ∧ Df (fun _ => False) σ σ1 ∧ Bn σ σ2 38 14 53 2423 (uF (uF (uF (uF (fun _ => 0) 400 39) 401 40) 402 41) 403 42) (fun _ => 0) ∧ Lv σ2 39 1 [] ∧ Lv σ2 40 1 [] ∧ Lv σ2 41 1 [] ∧ St σ2 42 52 [48] V00 := by
  have nxc : NXc = 600002 := rfl
  have uxc : UXc = 7302250 := rfl
  obtain ⟨c1, b0⟩ := Bn.new hw 4 4 (by omega) (by omega)
  rw [hN, hU] at b0
  rw [hN] at c1
  have b0 : Bn σ (hO σ 4 4) 38 14 39 2265 (fun _ => 0) (fun _ => 0) := b0
  have o1 := b0.2.1.2.1 1 (hw.lt k1)
  obtain ⟨s1, f1, b1, v1, d1⟩ := b0.list 400 (o1.1.trans k1) (o1.2.trans l1) (by omega) (by omega)
  have b1 : Bn σ s1 38 14 40 2268 (uF (fun _ => 0) 400 39) (fun _ => 0) := b1
  have v39 : Lv s1 39 1 [] := v1
  have o2 := b1.2.1.2.1 1 (hw.lt k1)
  obtain ⟨s2, f2, b2, v2, d2⟩ := b1.list 401 (o2.1.trans k1) (o2.2.trans l1) (by omega) (by omega)
  have b2 : Bn σ s2 38 14 41 2271 (uF (uF (fun _ => 0) 400 39) 401 40) (fun _ => 0) := b2
  have v39 := v39.df b1.1 d2 (by omega) (fun z => absurd rfl z)
  have v40 : Lv s2 40 1 [] := v2
  have o3 := b2.2.1.2.1 1 (hw.lt k1)
  obtain ⟨s3, f3, b3, v3, d3⟩ := b2.list 402 (o3.1.trans k1) (o3.2.trans l1) (by omega) (by omega)
  have b3 : Bn σ s3 38 14 42 2274 (uF (uF (uF (fun _ => 0) 400 39) 401 40) 402 41) (fun _ => 0) := b3
  have v39 := v39.df b2.1 d3 (by omega) (fun z => absurd rfl z)
  have v40 := v40.df b2.1 d3 (by omega) (fun z => absurd rfl z)
  have v41 : Lv s3 41 1 [] := v3
  have o9 := b3.2.1.2.1 1 (hw.lt k1)
  obtain ⟨sa, sb, e1, e2, e3, e4, e5, e6, e7⟩ := newState2 b3.1 (o9.1.trans k1) (o9.2.trans l1) (by rw [b3.2.2.1]; omega) (by rw [b3.2.2.2.1]; omega)
  rw [b3.2.2.1] at e1 e2 e3 e6
  rw [b3.2.2.2.1] at e7
  have bb := b3.go e4 e5
  rw [e6, e7] at bb
  have v39 := v39.df b3.1 e5 (fun z => z) (fun z => absurd rfl z)
  have v40 := v40.df b3.1 e5 (fun z => z) (fun z => absurd rfl z)
  have v41 := v41.df b3.1 e5 (fun z => z) (fun z => absurd rfl z)
  have st : St sb 42 52 [48] V00 := e3
  obtain ⟨sc, fc, bc, dc⟩ := bb.fr 403 42
  have bc : Bn σ sc 38 14 53 2423 (uF (uF (uF (uF (fun _ => 0) 400 39) 401 40) 402 41) 403 42) (fun _ => 0) := bc
  have v39 := v39.df e4 dc (by omega) (fun z => absurd rfl z)
  have v40 := v40.df e4 dc (by omega) (fun z => absurd rfl z)
  have v41 := v41.df e4 dc (by omega) (fun z => absurd rfl z)
  have st : St sc 42 52 [48] V00 := st.df e4 dc (fun x hx => by unfold Fp Ap at hx; simp at hx; omega)
  refine ⟨hO σ 4 4, sc, c1, ?_, b0.2.1, bc, v39, v40, v41, st⟩
  unfold kX4_init
  rw [nz_ok (by decide), bind_s, f1, f2, f3, e1, bd2_s, nz_ok (by decide), bind_s, e2, bind_s, fc]
end NEW2
