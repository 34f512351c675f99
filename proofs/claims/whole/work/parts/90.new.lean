-- objects are made
def Bn (σ0 σ : Hp) (s t n u : Nat) (F : Nat → Nat) (I : Nat → Int32) : Prop := Wn σ ∧ Df (fun _ => False) σ0 σ ∧ σ.nx = n ∧ σ.us = u ∧ σ0.nx ≤ s ∧ s < n ∧ σ.kd s = t ∧ (∀ j, σ.fr j s = F j) ∧ (∀ j, σ.fi j s = I j)
def uF (F : Nat → Nat) (i v : Nat) : Nat → Nat := fun j => if j = i then v else F j
def uI (F : Nat → Int32) (i : Nat) (v : Int32) : Nat → Int32 := fun j => if j = i then v else F j
section NEW
variable {σ0 σ : Hp} {s t n u : Nat} {F : Nat → Nat} {I : Nat → Int32}
theorem Bn.new (hw : Wn σ) (c k : Nat) (hn : σ.nx + 1 ≤ NXc) (hu : σ.us + k ≤ UXc) : nwO σ c k = some (σ.nx, hO σ c k) ∧ Bn σ (hO σ c k) σ.nx (10 + c) (σ.nx + 1) (σ.us + k) (fun _ => 0) (fun _ => 0) := ⟨nwO_ok hn hu, hw.nO, Df.nO, rfl, rfl, Nat.le_refl _, Nat.lt_succ_self _, upr_s, fun _ => if_pos rfl, fun _ => if_pos rfl⟩
theorem Df.fls {σ1 σ2 : Hp} {x : Nat} (h : Df (fun _ => False) σ0 σ1) (g : Df (fun y => y = x) σ1 σ2) (hx : σ0.nx ≤ x) : Df (fun _ => False) σ0 σ2 := h.trans g (fun a ha q => by omega)
theorem Bn.fr (h : Bn σ0 σ s t n u F I) (i v : Nat) : ∃ σ', (∀ {Y : Type} (K : Hp → Option Y), (pfr σ t i s v).bind K = K σ') ∧ Bn σ0 σ' s t n u (uF F i v) I ∧ Df (fun x => x = s) σ σ' := by
  obtain ⟨h1, h2, h3, h4, h5, h6, h7, h8, h9⟩ := h
  have d : Df (fun x => x = s) σ (sfr σ i s v) := Df.xr rfl
  refine ⟨sfr σ i s v, fun K => by rw [pfr_ok h7, bind_s], ⟨h1, h2.fls d h5, h3, h4, h5, h6, h7, fun j => ?_, h9⟩, d⟩
  rw [fr_sfr]
  unfold uF
  by_cases z : j = i
  · rw [if_pos ⟨z, rfl⟩, if_pos z]
  · rw [if_neg (fun y => z y.1), if_neg z]; exact h8 j
theorem Bn.fi (h : Bn σ0 σ s t n u F I) (i : Nat) (v : Int32) : ∃ σ', (∀ {Y : Type} (K : Hp → Option Y), (pfi σ t i s v).bind K = K σ') ∧ Bn σ0 σ' s t n u F (uI I i v) ∧ Df (fun x => x = s) σ σ' := by
  obtain ⟨h1, h2, h3, h4, h5, h6, h7, h8, h9⟩ := h
  have d : Df (fun x => x = s) σ (sfi σ i s v) := Df.xi rfl
  refine ⟨sfi σ i s v, fun K => by rw [pfi_ok h7, bind_s], ⟨h1, h2.fls d h5, h3, h4, h5, h6, h7, h8, fun j => ?_⟩, d⟩
  rw [fi_sfi]
  unfold uI
  by_cases z : j = i
  · rw [if_pos ⟨z, rfl⟩, if_pos z]
  · rw [if_neg (fun y => z y.1), if_neg z]; exact h9 j
/-- something else was made, and the object stays -/
theorem Bn.go {σ1 : Hp} (h : Bn σ0 σ s t n u F I) (hw : Wn σ1) (d : Df (fun _ => False) σ σ1) : Bn σ0 σ1 s t σ1.nx σ1.us F I := by
  obtain ⟨h1, h2, h3, h4, h5, h6, h7, h8, h9⟩ := h
  have lt : s < σ.nx := by omega
  have q := d.2.2 s lt (fun z => z)
  have := d.1
  exact ⟨hw, h2.trans d (fun _ _ z => z), rfl, rfl, h5, by omega, ((d.2.1 s lt).1).trans h7, fun j => (q.2.1 j).trans (h8 j), fun j => (q.1 j).trans (h9 j)⟩
theorem Bn.arr (h : Bn σ0 σ s t n u F I) (a k i : Nat) (hk : k < 2 ^ 31) (hn : n + 1 ≤ NXc) (hu : u + k ≤ UXc) : ∃ σ', (∀ {Y : Type} (K : Hp → Option Y), bd2 (nwA σ a (nI k)) (fun v s1 => (pfr s1 t i s v).bind K) = K σ') ∧ Bn σ0 σ' s t (n + 1) (u + k) (uF F i n) I ∧ σ'.kd n = a ∧ σ'.ln n = k ∧ Df (fun x => x = s) σ σ' ∧ σ'.ar n = (fun _ => 0) := by
  have h0 := h
  obtain ⟨h1, h2, h3, h4, h5, h6, h7, h8, h9⟩ := h
  have b1 := h0.go (σ1 := hA σ a k) h1.nA Df.nA
  obtain ⟨σ', g1, g2, g3⟩ := b1.fr i n
  have ne : n ≠ s := by omega
  refine ⟨σ', fun K => by rw [nwA_ok hk (by omega) (by omega), bd2_s, h3]; exact g1 K, ?_, ?_, ?_, (Df.nA).trans g3 (fun x _ q => q), ?_⟩
  · have e1 : (hA σ a k).nx = n + 1 := by show σ.nx + 1 = _; omega
    have e2 : (hA σ a k).us = u + k := by show σ.us + k = _; omega
    rw [e1, e2] at g2
    exact g2
  · have lt : n < (hA σ a k).nx := by show n < σ.nx + 1; omega
    rw [(g3.2.1 n lt).1]
    show upr σ.kd σ.nx a n = a
    rw [← h3]; exact upr_s
  · have lt : n < (hA σ a k).nx := by show n < σ.nx + 1; omega
    rw [(g3.2.1 n lt).2]
    show upr σ.ln σ.nx k n = k
    rw [← h3]; exact upr_s
  · have lt : n < (hA σ a k).nx := by show n < σ.nx + 1; omega
    rw [(g3.2.2 n lt ne).2.2.1]
    show upr σ.ar σ.nx (fun _ => 0) n = _
    rw [← h3]; exact upr_s
theorem Bn.list (h : Bn σ0 σ s t n u F I) (i : Nat) (k1 : σ.kd 1 = 5) (l1 : σ.ln 1 = 0) (hn : n + 1 ≤ NXc) (hu : u + 3 ≤ UXc) : ∃ σ', (∀ {Y : Type} (K : Hp → Option Y), bd2 (nwO σ 12 3) (fun v15 σ16 => (nz v15).bind (fun _ => (kJx4a65c_init_da8c8 σ16 v15).bind (fun σ17 => (pfr σ17 t i s v15).bind K))) = K σ') ∧ Bn σ0 σ' s t (n + 1) (u + 3) (uF F i n) I ∧ Lv σ' n 1 [] ∧ Df (fun x => x = s) σ σ' := by
  have h0 := h
  obtain ⟨h1, h2, h3, h4, h5, h6, h7, h8, h9⟩ := h
  obtain ⟨c1, c2⟩ := Bn.new h1 12 3 (by omega) (by omega)
  have n2 := h1.1
  have nz0 : σ.nx ≠ 0 := by omega
  obtain ⟨s1, f1, f2, f3⟩ := c2.fi 1200 0
  obtain ⟨s2, f4, f5, f6⟩ := f2.fr 1201 1
  have ini : kJx4a65c_init_da8c8 (hO σ 12 3) σ.nx = some s2 := by
    unfold kJx4a65c_init_da8c8 kJxc12de_init_da8c8 kJxa1e45_init_da8c8
    have t1 : (pfi (hO σ 12 3) 22 1200 σ.nx 0).bind (fun σ2 => some σ2) = some s1 := f1 _
    have t2 : (pfr s1 22 1201 σ.nx 1).bind (fun σ2 => some σ2) = some s2 := f4 _
    simp only [nz_ok nz0, bind_s, t1, t2]
  have d2 : Df (fun _ => False) σ s2 := f5.2.1
  have b1 := h0.go (σ1 := s2) f5.1 d2
  obtain ⟨σ', g1, g2, g3⟩ := b1.fr i n
  have e1 : s2.nx = n + 1 := by rw [f5.2.2.1, h3]
  have e2 : s2.us = u + 3 := by rw [f5.2.2.2.1, h4]
  rw [e1, e2] at g2
  have ne : n ≠ s := by omega
  have lv2 : Lv s2 n 1 [] := by
    have k22 := f5.2.2.2.2.2.2.1
    have q1 := f5.2.2.2.2.2.2.2.1 1201
    have q2 := f5.2.2.2.2.2.2.2.2 1202
    have o1 := d2.2.1 1 (h1.lt k1)
    rw [h3] at k22 q1 q2
    exact ⟨⟨k22, q1, q2, by show 0 ≤ 1000; omega⟩, Or.inl ⟨rfl, o1.1.trans k1, o1.2.trans l1, rfl⟩, fun k a hk => by cases hk⟩
  refine ⟨σ', fun K => ?_, g2, lv2.df f5.1 g3 ne (fun z => absurd rfl z), (d2.mono (fun x _ q => q.elim)).trans g3 (fun x _ q => q)⟩
  rw [c1, bd2_s, nz_ok nz0, bind_s, ini, bind_s, h3]
  exact g1 K
/-- what a fresh state holds -/
def V00 : Vt := mkV (fun _ => 0) [] 0 4 1 0 (fun _ => mkP true none [])
set_option maxHeartbeats 2000000 in
theorem c_newState (hw : Wn σ) (k1 : σ.kd 1 = 5) (l1 : σ.ln 1 = 0) (hn : σ.nx + 20 ≤ NXc) (hu : σ.us + 3000 ≤ UXc) : ∃ σ1 σ2, nwO σ 7 13 = some (σ.nx, σ1) ∧ kX7_init σ1 σ.nx = some σ2 ∧ St σ2 σ.nx (σ.nx + 10) [σ.nx + 6] V00 ∧ Wn σ2 ∧ Df (fun x => x = 1) σ σ2 ∧ σ.nx + 11 ≤ σ2.nx ∧ Pn σ2 (σ.nx + 10) [σ.nx + 6] ≤ σ.nx + 5610 ∧ Pu σ2 (σ.nx + 10) [σ.nx + 6] ≤ σ.us + 41510 ∧ σ2.fi 711 σ.nx = 0 ∧ σ2.fi 712 σ.nx = 0 := by
  have n2 := hw.1
  have nz0 : σ.nx ≠ 0 := by omega
  generalize hN : σ.nx = N at *
  obtain ⟨c1, b0⟩ := Bn.new hw 7 13 (by omega) (by omega)
  rw [hN] at c1 b0
  have b0 : Bn σ (hO σ 7 13) N 17 (N + 1) (σ.us + 13) (fun _ => 0) (fun _ => 0) := b0
  refine ⟨hO σ 7 13, ?_⟩
  obtain ⟨s1, f1, b1, q1, q2, d1, q3⟩ := b0.arr 1 40 700 (by omega) (by omega) (by omega)
  obtain ⟨s2, f2, b2, q4, q5, d2, q6⟩ := b1.arr 1 16 702 (by omega) (by omega) (by omega)
  obtain ⟨s3, f3, b3, q7, q8, d3, q9⟩ := b2.arr 1 16 703 (by omega) (by omega) (by omega)
  obtain ⟨s4, f4, b4, q10, q11, d4, q12⟩ := b3.arr 1 16 704 (by omega) (by omega) (by omega)
  obtain ⟨s5, f5, b5, d5⟩ := b4.fi 706 0
  obtain ⟨s6, f6, b6, d6⟩ := b5.fi 707 4
  have one6 := b6.2.1.2.1 1 (hw.lt k1)
  obtain ⟨s7, f7, b7, lv7, d7⟩ := b6.list 708 (one6.1.trans k1) (one6.2.trans l1) (by omega) (by omega)
  obtain ⟨s8, f8, b8, d8⟩ := b7.fi 709 1
  have n8 : s8.nx = N + 6 := b8.2.2.1
  have u8 := b8.2.2.2.1
  obtain ⟨s9, s10, g1, g2, g3, g4, g5, g6, g7⟩ := c_newPage b8.1 (by omega) (by omega)
  rw [n8] at g1 g2 g3 g6
  have b10 := b8.go g4 g5
  have lt : ∀ x, x ≠ N → x < s8.nx → ∀ i : Nat, True := fun _ _ _ _ => trivial
  have lv8 : Lv s8 (N + 5) 1 [] := lv7.df b7.1 d8 (by omega) (fun z => absurd rfl z)
  have lv10 : Lv s10 (N + 5) 1 [] := lv8.df b8.1 g5 (fun z => z) (fun z => absurd rfl z)
  obtain ⟨s11, E, m1, m2, m3, m4, m5, m6, m7⟩ := lv10.add g4 (Or.inl g3.1.1) (by show 0 < 1000; omega) (by omega) (by omega)
  have one10 : s10.ln 1 = 0 := by
    have := b10.2.1.2.1 1 (hw.lt k1)
    exact this.2.trans l1
  have eE : E = N + 10 := by
    rcases m5 with z | z
    · rcases m2.2.1 with y | y
      · cases y.2.2.2
      · exact absurd z y.2.2.2.2
    · rw [z, g6]
  subst eE
  have st : ∀ x, x < N + 10 → x ≠ N + 5 → x ≠ 1 → s11.kd x = s10.kd x ∧ s11.ln x = s10.ln x ∧ (∀ i, s11.fi i x = s10.fi i x) ∧ (∀ i, s11.fr i x = s10.fr i x) ∧ s11.ar x = s10.ar x := fun x h1 h2 h3 => by
    have l := m4.2.1 x (by omega)
    have q := m4.2.2 x (by omega) (by omega)
    exact ⟨l.1, l.2, q.1, q.2.1, q.2.2.1⟩
  have up : ∀ x, x < N + 6 → s10.kd x = s8.kd x ∧ s10.ln x = s8.ln x ∧ s10.ar x = s8.ar x := fun x h1 => by
    have l := g5.2.1 x (by omega)
    have q := g5.2.2 x (by omega) (fun z => z)
    exact ⟨l.1, l.2, q.2.2.1⟩
  -- the rows, from their making on
  have keep : ∀ {sa sb : Hp} {x : Nat}, Df (fun y => y = N) sa sb → x < sa.nx → x ≠ N → sb.kd x = sa.kd x ∧ sb.ln x = sa.ln x ∧ sb.ar x = sa.ar x := fun {sa sb x} d h1 h2 => ⟨(d.2.1 x h1).1, (d.2.1 x h1).2, (d.2.2 x h1 h2).2.2.1⟩
  have e1 := b1.2.2.1
  have e2 := b2.2.2.1
  have e3 := b3.2.2.1
  have e4 := b4.2.2.1
  have e5 := b5.2.2.1
  have e6 := b6.2.2.1
  have e7 := b7.2.2.1
  have w8 : ∀ x, x ≠ N → x < N + 5 → s8.kd x = s4.kd x ∧ s8.ln x = s4.ln x ∧ s8.ar x = s4.ar x := fun x hx h1 => by
    have a1 := keep d5 (x := x) (by omega) hx
    have a2 := keep d6 (x := x) (by omega) hx
    have a3 := keep d7 (x := x) (by omega) hx
    have a4 := keep d8 (x := x) (by omega) hx
    exact ⟨a4.1.trans (a3.1.trans (a2.1.trans a1.1)), a4.2.1.trans (a3.2.1.trans (a2.2.1.trans a1.2.1)), a4.2.2.trans (a3.2.2.trans (a2.2.2.trans a1.2.2))⟩
  have x1 := keep d2 (x := N + 1) (by omega) (by omega)
  have x2 := keep d3 (x := N + 1) (by omega) (by omega)
  have x3 := keep d4 (x := N + 1) (by omega) (by omega)
  have x4 := keep d3 (x := N + 2) (by omega) (by omega)
  have x5 := keep d4 (x := N + 2) (by omega) (by omega)
  have x6 := keep d4 (x := N + 3) (by omega) (by omega)
  have fin : ∀ x, N < x → x < N + 5 → s11.kd x = s4.kd x ∧ s11.ln x = s4.ln x ∧ s11.ar x = s4.ar x := fun x h1 h2 => by
    have a1 := st x (by omega) (by omega) (by omega)
    have a2 := up x (by omega)
    have a3 := w8 x (by omega) (by omega)
    exact ⟨a1.1.trans (a2.1.trans a3.1), a1.2.1.trans (a2.2.1.trans a3.2.1), a1.2.2.2.2.trans (a2.2.2.trans a3.2.2)⟩
  have z1 := fin (N + 1) (by omega) (by omega)
  have z2 := fin (N + 2) (by omega) (by omega)
  have z3 := fin (N + 3) (by omega) (by omega)
  have z4 := fin (N + 4) (by omega) (by omega)
  have sN := st N (by omega) (by omega) (by omega)
  have frN := b10.2.2.2.2.2.2.2.1
  have fiN := b10.2.2.2.2.2.2.2.2
  have kN := b10.2.2.2.2.2.2.1
  have pg : PC s11 (N + 6) (mkP true none []) := g3.df g4 m4 (fun x h1 h2 q => by omega)
  refine ⟨s11, c1, ?_, ⟨⟨⟨sN.1.trans kN, z1.1.trans (x3.1.trans (x2.1.trans (x1.1.trans q1))), z2.1.trans (x5.1.trans (x4.1.trans q4)), z3.1.trans (x6.1.trans q7), z4.1.trans q10⟩, ⟨z1.2.1.trans (x3.2.1.trans (x2.2.1.trans (x1.2.1.trans q2))), z2.2.1.trans (x5.2.1.trans (x4.2.1.trans q5)), z3.2.1.trans (x6.2.1.trans q8), z4.2.1.trans q11⟩, ⟨(sN.2.2.2.1 _).trans (frN _), (sN.2.2.2.1 _).trans (frN _), (sN.2.2.2.1 _).trans (frN _), (sN.2.2.2.1 _).trans (frN _), (sN.2.2.2.1 _).trans (frN _)⟩, ⟨(sN.2.2.1 _).trans (fiN _), (sN.2.2.1 _).trans (fiN _), (sN.2.2.1 _).trans (fiN _), (sN.2.2.1 _).trans (fiN _)⟩, fun t ht => ?_, fun k e he => by cases he⟩, ⟨(sN.2.2.1 _).trans (fiN _), (sN.2.2.1 _).trans (fiN _)⟩, m2, by simp, fun a ha => ?_, Nat.le_refl _, fun p a hp ha => ?_⟩, m3, ?_, ?_, ?_, ?_, (sN.2.2.1 _).trans (fiN _), (sN.2.2.1 _).trans (fiN _)⟩
  · unfold kX7_init
    rw [nz_ok nz0, bind_s, show (40 : Int32) = nI 40 from rfl, show (16 : Int32) = nI 16 from rfl, f1, f2, f3, f4, f5, f6, f7, f8, gfr_ok b8.2.2.2.2.2.2.1, b8.2.2.2.2.2.2.2.1, bind_s, g1, bd2_s, nz_ok (by omega), bind_s, g2, bind_s]
    show ckd s10 (N + 5) 22 (bd2 (kJx4a65c_add_9ea2d s10 (N + 5) (N + 6)) _) = _
    rw [lv10.c, m1, bd2_s]
  · rw [z1.2.2, x3.2.2, x2.2.2, x1.2.2, q3]; rfl
  · rcases List.mem_singleton.mp ha with rfl
    exact pg.1
  · have hp : p < 1 := hp
    have : p = 0 := by omega
    subst this
    cases ha
    exact pg
  · exact (b10.2.1.mono (fun x _ q => q.elim)).trans m4 (fun x hx q => by rw [hN] at hx; omega)
  · have := m3.lt (a := N + 10) (t := 3) (by
      rcases m2.2.1 with y | y
      · cases y.2.2.2
      · exact y.1)
    omega
  · unfold Pn
    show s11.nx + 4 * (1000 - 1) + (1600 - s11.ln (N + 10)) ≤ _
    omega
  · unfold Pu
    show s11.us + 35 * (1000 - 1) + 4 * (1600 - s11.ln (N + 10)) ≤ _
    omega
end NEW
