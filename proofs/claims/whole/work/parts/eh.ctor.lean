section CTOR
variable {σ σ' σ1 σ2 : Hp} {n u n' u' : Nat} {F : Nat → Nat} {A : Nat → Prop}
/-- the class's own object while it is made -/
def To (σ : Hp) (F : Nat → Nat) (n u : Nat) : Prop := Wn σ ∧ σ.nx = n ∧ σ.us = u ∧ σ.kd 2 = 21 ∧ (∀ j, σ.fr j 2 = F j) ∧ σ.kd 1 = 5 ∧ σ.ln 1 = 0
theorem To.sub (h : To σ F n u) (d : Df (fun _ => False) σ σ') (hw : Wn σ') (hn : σ'.nx = n') (hu : σ'.us = u') : To σ' F n' u' := by
  obtain ⟨a1, a2, a3, a4, a5, a6, a7⟩ := h
  have l1 := a1.lt a6
  have l2 := a1.lt a4
  exact ⟨hw, hn, hu, (d.2.1 2 l2).1.trans a4, fun j => ((d.2.2 2 l2 (fun z => z)).2.1 j).trans (a5 j), (d.2.1 1 l1).1.trans a6, (d.2.1 1 l1).2.trans a7⟩
theorem To.fr (h : To σ F n u) (i v : Nat) : ∃ σ', (∀ {Y : Type} (K : Hp → Option Y), (pfr σ 21 i 2 v).bind K = K σ') ∧ To σ' (uF F i v) n u ∧ Df (fun x => x = 2) σ σ' := by
  obtain ⟨a1, a2, a3, a4, a5, a6, a7⟩ := h
  refine ⟨sfr σ i 2 v, fun K => by rw [pfr_ok a4, bind_s], ⟨a1, a2, a3, a4, fun j => ?_, a6, a7⟩, Df.xr rfl⟩
  rw [fr_sfr]
  unfold uF
  by_cases z : j = i
  · rw [if_pos ⟨z, rfl⟩, if_pos z]
  · rw [if_neg (fun y => z y.1), if_neg z]; exact a5 j
theorem To.g (h : To σ F n u) (d : Df (fun _ => False) σ σ1) (j : Nat) : gfr σ1 21 j 2 = some (F j) := by
  have l2 := h.1.lt h.2.2.2.1
  rw [gfr_ok ((d.2.1 2 l2).1.trans h.2.2.2.1), (d.2.2 2 l2 (fun z => z)).2.1 j, h.2.2.2.2.1]
/-- what the class holds when it is made -/
def Cz0 (σ : Hp) : Prop := (St σ 3 13 [9] V00 ∧ Tk σ ∧ Wn σ ∧ Fz σ V00 ∧ Mo σ 17 18 ∧ Lk σ) ∧ (Ck σ ∧ σ.fi 617 29 = 0) ∧ (Cy σ ∧ Sr σ) ∧ ((σ.kd 53 = 10 ∧ σ.kd 54 = 1 ∧ σ.kd 55 = 1 ∧ σ.kd 56 = 1 ∧ σ.kd 57 = 1) ∧ (σ.ln 54 = 300 ∧ σ.ln 55 = 75 ∧ σ.ln 56 = 75 ∧ σ.ln 57 = 75) ∧ (σ.fr 0 53 = 54 ∧ σ.fr 2 53 = 55 ∧ σ.fr 3 53 = 56 ∧ σ.fr 4 53 = 57) ∧ σ.fi 1 53 = 0 ∧ σ.fi 6 53 = -1) ∧ ((σ.kd 58 = 15 ∧ σ.kd 59 = 1 ∧ σ.ln 59 = 400 ∧ σ.fr 500 58 = 59) ∧ σ.fi 501 58 = 0) ∧ (σ.kd 1 = 5 ∧ σ.ln 1 = 0) ∧ ((σ.kd 27 = 20 ∧ σ.fr 1000 27 = 3 ∧ σ.fr 1001 27 = 19 ∧ σ.fr 1002 27 = 28) ∧ Lv σ 28 1 []) ∧ ((σ.kd 38 = 14 ∧ σ.fr 400 38 = 39 ∧ σ.fr 401 38 = 40 ∧ σ.fr 402 38 = 41 ∧ σ.fr 403 38 = 42) ∧ (Lv σ 39 1 [] ∧ Lv σ 40 1 [] ∧ Lv σ 41 1 []) ∧ St σ 42 52 [48] V00)
/-- an object's fields, to the end -/
theorem Bn.fin {σ0 : Hp} {s t : Nat} {I : Nat → Int32} (h : Bn σ0 σ s t n u F I) (d : Df (fun x => x = 2) σ σ') (hs : s ≠ 2) : σ'.kd s = t ∧ (∀ j, σ'.fr j s = F j) ∧ ∀ j, σ'.fi j s = I j := by
  obtain ⟨h1, h2, h3, h4, h5, h6, h7, h8, h9⟩ := h
  have l : s < σ.nx := by omega
  have q := d.2.2 s l hs
  exact ⟨(d.2.1 s l).1.trans h7, fun j => (q.2.1 j).trans (h8 j), fun j => (q.1 j).trans (h9 j)⟩
theorem Df.f2 (d : Df (fun _ => False) σ σ1) (e : Df (fun x => x = 2) σ1 σ2) (g : Df (fun x => x = 2) σ2 σ') : Df (fun x => x = 2) σ σ' := (d.mono (fun _ _ z => z.elim)).tr (e.tr g)
set_option maxHeartbeats 2000000 in
theorem j_ctor : ∃ σ1 σ2, nwO hp0 11 10 = some (2, σ1) ∧ kX11_init σ1 2 = some σ2 ∧ σ2.nx = 60 ∧ σ2.us = 3360 ∧ Cz0 σ2 := by
  have nxc : NXc = 600002 := rfl
  have uxc : UXc = 7302250 := rfl
  have w0 : Wn hp0 := ⟨Nat.le_refl _, fun a ha => by
    show a < 2
    by_cases z : a = 1
    · omega
    · exact absurd (show hp0.kd a = 0 from if_neg z) ha⟩
  obtain ⟨c0, b0⟩ := Bn.new w0 11 10 (show hp0.nx + 1 ≤ NXc by decide) (show hp0.us + 10 ≤ UXc by decide)
  have c0 : nwO hp0 11 10 = some (2, hO hp0 11 10) := c0
  have b0 : Bn hp0 (hO hp0 11 10) 2 21 3 10 (fun _ => 0) (fun _ => 0) := b0
  have o0 := b0.2.1.2.1 1 (show 1 < 2 by omega)
  have t0 : To (hO hp0 11 10) (fun _ => 0) 3 10 := ⟨b0.1, b0.2.2.1, b0.2.2.2.1, b0.2.2.2.2.2.2.1, b0.2.2.2.2.2.2.2.1, o0.1.trans rfl, o0.2.trans rfl⟩
  generalize hO hp0 11 10 = s0 at *
  clear b0 o0
  refine ⟨s0, ?_⟩
  -- the state
  obtain ⟨x1, y1, e1, g1, st1, w1, d1, n1, u1⟩ := newState2 t0.1 t0.2.2.2.2.2.1 t0.2.2.2.2.2.2 (by rw [t0.2.1]; omega) (by rw [t0.2.2.1]; omega)
  rw [t0.2.1] at e1 g1 st1 n1
  rw [t0.2.2.1] at u1
  have st1 : St y1 3 13 [9] V00 := st1
  obtain ⟨z1, f1, t1, v1⟩ := (t0.sub d1 w1 n1 u1).fr 1100 3
  have t1 : To z1 (uF (fun _ => 0) 1100 3) 14 159 := t1
  -- meas
  obtain ⟨x2, y2, e2, g2, h2, b2, r2_0, r2_1, r2_2, r2_3⟩ := n_meas t1.1 t1.2.2.2.2.2.1 t1.2.2.2.2.2.2 t1.2.1 t1.2.2.1
  obtain ⟨z2, f2, t2, v2⟩ := (t1.sub b2.2.1 b2.1 b2.2.2.1 b2.2.2.2.1).fr 1101 14
  -- fars
  obtain ⟨x3, y3, e3, g3, h3, b3, r3_0, r3_1, r3_2, r3_3⟩ := n_fars t2.1 t2.2.2.2.2.2.1 t2.2.2.2.2.2.2 t2.2.1 t2.2.2.1
  obtain ⟨z3, f3, t3, v3⟩ := (t2.sub b3.2.1 b3.1 b3.2.2.1 b3.2.2.2.1).fr 1102 19
  -- tree
  obtain ⟨x4, y4, e4, g4, h4, b4, r4_0, r4_1, r4_2⟩ := n_tree t3.1 t3.2.2.2.2.2.1 t3.2.2.2.2.2.2 t3.2.1 t3.2.2.1
  obtain ⟨z4, f4, t4, v4⟩ := (t3.sub b4.2.1 b4.1 b4.2.2.1 b4.2.2.2.1).fr 1103 23
  -- walk
  obtain ⟨x5, y5, e5, g5, h5, b5, r5_0⟩ := n_walk t4.1 t4.2.2.2.2.2.1 t4.2.2.2.2.2.2 t4.2.1 t4.2.2.1
  obtain ⟨z5, f5, t5, v5⟩ := (t4.sub b5.2.1 b5.1 b5.2.2.1 b5.2.2.2.1).fr 1104 27
  -- search
  obtain ⟨x6, y6, e6, g6, h6, b6, r6_0, r6_1, r6_2⟩ := n_search t5.1 t5.2.2.2.2.2.1 t5.2.2.2.2.2.2 t5.2.1 t5.2.2.1
  obtain ⟨z6, f6, t6, v6⟩ := (t5.sub b6.2.1 b6.1 b6.2.2.1 b6.2.2.2.1).fr 1105 29
  -- survey
  obtain ⟨x7, y7, e7, g7, h7, b7, r7_0, r7_1, r7_2, r7_3⟩ := n_survey t6.1 t6.2.2.2.2.2.1 t6.2.2.2.2.2.2 t6.2.1 t6.2.2.1
  obtain ⟨z7, f7, t7, v7⟩ := (t6.sub b7.2.1 b7.1 b7.2.2.1 b7.2.2.2.1).fr 1106 33
  -- past
  obtain ⟨x8, y8, e8, g8, h8, b8, r8_0, r8_1, r8_2, r8_3⟩ := n_past t7.1 t7.2.2.2.2.2.1 t7.2.2.2.2.2.2 t7.2.1 t7.2.2.1
  obtain ⟨z8, f8, t8, v8⟩ := (t7.sub b8.2.1 b8.1 b8.2.2.1 b8.2.2.2.1).fr 1107 38
  -- cmds
  obtain ⟨x9, y9, e9, g9, h9, b9, r9_0, r9_1, r9_2, r9_3⟩ := n_cmds t8.1 t8.2.2.2.2.2.1 t8.2.2.2.2.2.2 t8.2.1 t8.2.2.1
  obtain ⟨z9, f9, t9, v9⟩ := (t8.sub b9.2.1 b9.1 b9.2.2.1 b9.2.2.2.1).fr 1108 53
  -- reps
  obtain ⟨x10, y10, e10, g10, h10, b10, r10_0⟩ := n_reps t9.1 t9.2.2.2.2.2.1 t9.2.2.2.2.2.2 t9.2.1 t9.2.2.1
  obtain ⟨z10, f10, t10, v10⟩ := (t9.sub b10.2.1 b10.1 b10.2.2.1 b10.2.2.2.1).fr 1109 58
  have D10 : Df (fun x => x = 2) y10 z10 := v10
  have D9 : Df (fun x => x = 2) y9 z10 := v9.tr (Df.f2 b10.2.1 v10 Df.rfl)
  have E9 : Df (fun x => x = 2) z9 z10 := Df.f2 b10.2.1 v10 Df.rfl
  have D8 : Df (fun x => x = 2) y8 z10 := v8.tr (Df.f2 b9.2.1 v9 E9)
  have E8 : Df (fun x => x = 2) z8 z10 := Df.f2 b9.2.1 v9 E9
  have D7 : Df (fun x => x = 2) y7 z10 := v7.tr (Df.f2 b8.2.1 v8 E8)
  have E7 : Df (fun x => x = 2) z7 z10 := Df.f2 b8.2.1 v8 E8
  have D6 : Df (fun x => x = 2) y6 z10 := v6.tr (Df.f2 b7.2.1 v7 E7)
  have E6 : Df (fun x => x = 2) z6 z10 := Df.f2 b7.2.1 v7 E7
  have D5 : Df (fun x => x = 2) y5 z10 := v5.tr (Df.f2 b6.2.1 v6 E6)
  have E5 : Df (fun x => x = 2) z5 z10 := Df.f2 b6.2.1 v6 E6
  have D4 : Df (fun x => x = 2) y4 z10 := v4.tr (Df.f2 b5.2.1 v5 E5)
  have E4 : Df (fun x => x = 2) z4 z10 := Df.f2 b5.2.1 v5 E5
  have D3 : Df (fun x => x = 2) y3 z10 := v3.tr (Df.f2 b4.2.1 v4 E4)
  have E3 : Df (fun x => x = 2) z3 z10 := Df.f2 b4.2.1 v4 E4
  have D2 : Df (fun x => x = 2) y2 z10 := v2.tr (Df.f2 b3.2.1 v3 E3)
  have E2 : Df (fun x => x = 2) z2 z10 := Df.f2 b3.2.1 v3 E3
  have D1 : Df (fun x => x = 2) y1 z10 := v1.tr (Df.f2 b2.2.1 v2 E2)
  have E1 : Df (fun x => x = 2) z1 z10 := Df.f2 b2.2.1 v2 E2
  refine ⟨z10, c0, ?_, t10.2.1, t10.2.2.1, ?_⟩
  · unfold kX11_init
    rw [nz_ok (by decide), bind_s, e1, bd2_s, nz_ok (by decide), bind_s, g1, bind_s, f1]
    rw [e2, bd2_s, nz_ok (by decide), bind_s, g2, bind_s, f2]
    rw [e3, bd2_s, t2.g h3 1101, bind_s, nz_ok (by decide), bind_s]
    show (kX1_init x3 19 14).bind _ = _
    rw [g3, bind_s, f3]
    rw [e4, bd2_s, t3.g h4 1100, bind_s, t3.g h4 1102, bind_s, nz_ok (by decide), bind_s]
    show (kX9_init x4 23 3 19).bind _ = _
    rw [g4, bind_s, f4]
    rw [e5, bd2_s, t4.g h5 1100, bind_s, t4.g h5 1102, bind_s, nz_ok (by decide), bind_s]
    show (kX10_init x5 27 3 19).bind _ = _
    rw [g5, bind_s, f5]
    rw [e6, bd2_s, t5.g h6 1100, bind_s, t5.g h6 1102, bind_s, t5.g h6 1101, bind_s, nz_ok (by decide), bind_s]
    show (kX6_init x6 29 3 19 14).bind _ = _
    rw [g6, bind_s, f6]
    rw [e7, bd2_s, t6.g h7 1100, bind_s, t6.g h7 1102, bind_s, nz_ok (by decide), bind_s]
    show (kX8_init x7 33 3 19).bind _ = _
    rw [g7, bind_s, f7]
    rw [e8, bd2_s, nz_ok (by decide), bind_s, g8, bind_s, f8]
    rw [e9, bd2_s, nz_ok (by decide), bind_s, g9, bind_s, f9]
    rw [e10, bd2_s, nz_ok (by decide), bind_s, g10, bind_s, f10]
  have Q2 := b2.fin D2 (by omega)
  have r2_0 := r2_0.df b2.1 D2
  have r2_1 := r2_1.df b2.1 D2
  have r2_2 := r2_2.df b2.1 D2
  have r2_3 := r2_3.df b2.1 D2
  have Q3 := b3.fin D3 (by omega)
  have r3_0 := r3_0.df b3.1 D3
  have r3_1 := r3_1.df b3.1 D3
  have r3_2 : z10.ar 21 = (fun _ => 0) := ((D3.2.2 21 (by rw [b3.2.2.1]; omega) (by omega)).2.2.1).trans r3_2
  have r3_3 := r3_3.df b3.1 D3
  have Q4 := b4.fin D4 (by omega)
  have r4_0 := r4_0.df b4.1 D4
  have r4_1 := r4_1.df b4.1 D4
  have r4_2 := r4_2.df b4.1 D4
  have Q5 := b5.fin D5 (by omega)
  have r5_0 := r5_0.df b5.1 D5 (by omega) (fun z => absurd rfl z)
  have Q6 := b6.fin D6 (by omega)
  have r6_0 := r6_0.df b6.1 D6
  have r6_1 := r6_1.df b6.1 D6
  have r6_2 := r6_2.df b6.1 D6
  have Q7 := b7.fin D7 (by omega)
  have r7_0 := r7_0.df b7.1 D7
  have r7_1 := r7_1.df b7.1 D7
  have r7_2 := r7_2.df b7.1 D7
  have r7_3 := r7_3.df b7.1 D7
  have Q8 := b8.fin D8 (by omega)
  have r8_0 := r8_0.df b8.1 D8 (by omega) (fun z => absurd rfl z)
  have r8_1 := r8_1.df b8.1 D8 (by omega) (fun z => absurd rfl z)
  have r8_2 := r8_2.df b8.1 D8 (by omega) (fun z => absurd rfl z)
  have r8_3 := r8_3.df b8.1 D8 (fun x hx => by unfold Fp Ap at hx; simp at hx; omega)
  have Q9 := b9.fin D9 (by omega)
  have r9_0 := r9_0.df b9.1 D9
  have r9_1 := r9_1.df b9.1 D9
  have r9_2 := r9_2.df b9.1 D9
  have r9_3 := r9_3.df b9.1 D9
  have Q10 := b10.fin D10 (by omega)
  have r10_0 := r10_0.df b10.1 D10
  have st1 := st1.df w1 D1 (fun x hx => by unfold Fp Ap at hx; simp at hx; omega)
  obtain ⟨T1, -, -, T4, T5, T6, T7⟩ := t10
  have ct : Tk z10 := ⟨⟨Q4.1, r4_0.1, r4_0.2, r4_1.1, r4_1.2, r4_2.1, r4_2.2⟩, Q4.2.1 900, Q4.2.1 901, Q4.2.1 902, Q4.2.1 903, Q4.2.1 904⟩
  have cf : Fz z10 V00 := ⟨⟨⟨Q3.1, r3_0.1, r3_1.1, r3_3.1⟩, ⟨r3_0.2, r3_1.2, r3_3.2⟩, Q3.2.1 100, Q3.2.1 101, Q3.2.1 102, Q3.2.1 104⟩, ⟨Q3.2.2 103, Q3.2.2 105⟩, fun t _ => (by rw [r3_2]; rfl), fun k e he => (by cases he), fun a b ha _ => absurd rfl ha.2⟩
  have cm2 : Mo z10 17 18 := ⟨⟨Q2.1, r2_0.1, r2_1.1, r2_2.1, r2_3.1⟩, ⟨r2_0.2, r2_1.2, r2_2.2, r2_3.2⟩, ⟨Q2.2.1 200, Q2.2.1 201, Q2.2.1 202, Q2.2.1 203⟩, Or.inl ⟨rfl, rfl⟩⟩
  have cl2 : Lk z10 := ⟨T4, T5 1100, T5 1101, T5 1102, T5 1103, T5 1104, T5 1105, T5 1106, T5 1107, T5 1108, T5 1109⟩
  have ck : Ck z10 := ⟨⟨Q6.1, r6_0.1, r6_1.1, r6_2.1⟩, ⟨r6_0.2, r6_1.2, r6_2.2⟩, Q6.2.1 600, Q6.2.1 601, Q6.2.1 602, Q6.2.1 610, Q6.2.1 611, Q6.2.1 612⟩
  have cy : Cy z10 := ⟨Q7.1, Q7.2.1 800, Q7.2.1 801⟩
  have cs : Sr z10 := ⟨⟨r7_0.1, r7_1.1, r7_2.1, r7_3.1⟩, ⟨r7_0.2, r7_1.2, r7_2.2, r7_3.2⟩, Q7.2.1 805, Q7.2.1 806, Q7.2.1 807, Q7.2.1 808⟩
  exact ⟨⟨st1, ct, T1, cf, cm2, cl2⟩, ⟨ck, Q6.2.2 617⟩, ⟨cy, cs⟩, ⟨⟨Q9.1, r9_0.1, r9_1.1, r9_2.1, r9_3.1⟩, ⟨r9_0.2, r9_1.2, r9_2.2, r9_3.2⟩, ⟨Q9.2.1 0, Q9.2.1 2, Q9.2.1 3, Q9.2.1 4⟩, Q9.2.2 1, Q9.2.2 6⟩, ⟨⟨Q10.1, r10_0.1, r10_0.2, Q10.2.1 500⟩, Q10.2.2 501⟩, ⟨T6, T7⟩, ⟨⟨Q5.1, Q5.2.1 1000, Q5.2.1 1001, Q5.2.1 1002⟩, r5_0⟩, ⟨⟨Q8.1, Q8.2.1 400, Q8.2.1 401, Q8.2.1 402, Q8.2.1 403⟩, ⟨r8_0, r8_1, r8_2⟩, r8_3⟩⟩
end CTOR
