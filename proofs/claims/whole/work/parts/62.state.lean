-- a state of the class: what stands in it, and its pages
def Hd (σ : Hp) (s : Nat) (V : Vt) : Prop := (σ.kd s = 17 ∧ σ.kd (s + 1) = 1 ∧ σ.kd (s + 2) = 1 ∧ σ.kd (s + 3) = 1 ∧ σ.kd (s + 4) = 1) ∧ (σ.ln (s + 1) = 40 ∧ σ.ln (s + 2) = 16 ∧ σ.ln (s + 3) = 16 ∧ σ.ln (s + 4) = 16) ∧ (σ.fr 700 s = s + 1 ∧ σ.fr 702 s = s + 2 ∧ σ.fr 703 s = s + 3 ∧ σ.fr 704 s = s + 4 ∧ σ.fr 708 s = s + 5) ∧ (σ.fi 701 s = nI (cn V) ∧ σ.fi 705 s = nI V.T.length ∧ σ.fi 706 s = nI V.M ∧ σ.fi 707 s = nI V.C) ∧ (∀ t, t < 40 → σ.ar (s + 1) t = nI (V.W t)) ∧ (∀ k e, V.T[k]? = some e → σ.ar (s + 2) k = nI e.1 ∧ σ.ar (s + 3) k = nI e.2.1 ∧ σ.ar (s + 4) k = nI e.2.2)
def Sp (σ : Hp) (s E : Nat) (L : List Nat) (V : Vt) : Prop := (σ.fi 709 s = nI V.U ∧ σ.fi 710 s = nI V.R) ∧ Lv σ (s + 5) E L ∧ L.Nodup ∧ (∀ a ∈ L, PG σ a) ∧ V.U ≤ L.length ∧ (∀ p a, p < V.U → L[p]? = some a → PC σ a (V.P p))
def St (σ : Hp) (s E : Nat) (L : List Nat) (V : Vt) : Prop := Hd σ s V ∧ Sp σ s E L V
/-- all cells of a state -/
def Fp (s E : Nat) (L : List Nat) : Nat → Prop := fun x => (s ≤ x ∧ x ≤ s + 5) ∨ x = E ∨ ∃ a, a ∈ L ∧ Ap a x
def Vt.sP (V : Vt) (p : Nat) (g : Pg) : Vt := mkV V.W V.T V.M V.C V.U V.R (fun q => if q = p then g else V.P q)
def Vt.sU (V : Vt) (u : Nat) : Vt := mkV V.W V.T V.M V.C u V.R V.P
def Vt.sR (V : Vt) (r : Nat) : Vt := mkV V.W V.T V.M V.C V.U r V.P
theorem sP_s {V : Vt} {p : Nat} {g : Pg} : (V.sP p g).P p = g := if_pos rfl
theorem sP_n {V : Vt} {p q : Nat} {g : Pg} (h : q ≠ p) : (V.sP p g).P q = V.P q := if_neg h
section STs
variable {σ σ' : Hp} {s E : Nat} {L : List Nat} {V : Vt}
theorem pg_pg {a b : Nat} (h : PG σ a) (g : PG σ b) (hn : a ≠ b) : a + 3 < b ∨ b + 3 < a := by
  have h1 := h.1
  have g1 := g.1
  obtain ⟨h2, h3, h4⟩ := h.2.2.1
  obtain ⟨g2, g3, g4⟩ := g.2.2.1
  rcases Nat.lt_or_ge (a + 3) b with q | q
  · exact Or.inl q
  · rcases Nat.lt_or_ge (b + 3) a with z | z
    · exact Or.inr z
    · exfalso
      rcases Nat.lt_or_ge a b with y | y
      · have : b = a + 1 ∨ b = a + 2 ∨ b = a + 3 := by omega
        rcases this with rfl | rfl | rfl <;> simp_all
      · have : a = b + 1 ∨ a = b + 2 ∨ a = b + 3 := by omega
        rcases this with rfl | rfl | rfl <;> simp_all
theorem pg_hd {a : Nat} (h : PG σ a) (g : Hd σ s V) (hl : σ.kd (s + 5) = 22) : a + 3 < s ∨ s + 5 < a := by
  have h1 := h.1
  obtain ⟨h2, h3, h4⟩ := h.2.2.1
  obtain ⟨g1, g2, g3, g4, g5⟩ := g.1
  rcases Nat.lt_or_ge (a + 3) s with q | q
  · exact Or.inl q
  · rcases Nat.lt_or_ge (s + 5) a with z | z
    · exact Or.inr z
    · exfalso
      rcases Nat.lt_or_ge a s with y | y
      · have : s = a + 1 ∨ s = a + 2 ∨ s = a + 3 := by omega
        rcases this with rfl | rfl | rfl <;> simp_all
      · have : a = s ∨ a = s + 1 ∨ a = s + 2 ∨ a = s + 3 ∨ a = s + 4 ∨ a = s + 5 := by omega
        rcases this with rfl | rfl | rfl | rfl | rfl | rfl <;> simp_all
theorem pg_row {a x : Nat} (h : PG σ a) (hx : σ.kd x = 3) : ¬ Ap a x := by
  intro q
  have h1 := h.1
  obtain ⟨h2, h3, h4⟩ := h.2.2.1
  have : x = a ∨ x = a + 1 ∨ x = a + 2 ∨ x = a + 3 := by unfold Ap at q; omega
  rcases this with rfl | rfl | rfl | rfl <;> simp_all
theorem Hd.df {A : Nat → Prop} (h : Hd σ s V) (hw : Wn σ) (d : Df A σ σ') (hA : ∀ x, s ≤ x → x ≤ s + 4 → ¬ A x) : Hd σ' s V := by
  obtain ⟨⟨a1, a2, a3, a4, a5⟩, ⟨b1, b2, b3, b4⟩, ⟨c1, c2, c3, c4, c5⟩, ⟨f1, f2, f3, f4⟩, w, t⟩ := h
  have k0 := d.2.1 s (hw.lt a1)
  have k1 := d.2.1 _ (hw.lt a2)
  have k2 := d.2.1 _ (hw.lt a3)
  have k3 := d.2.1 _ (hw.lt a4)
  have k4 := d.2.1 _ (hw.lt a5)
  have q0 := d.2.2 s (hw.lt a1) (hA _ (by omega) (by omega))
  have q1 := d.2.2 _ (hw.lt a2) (hA _ (by omega) (by omega))
  have q2 := d.2.2 _ (hw.lt a3) (hA _ (by omega) (by omega))
  have q3 := d.2.2 _ (hw.lt a4) (hA _ (by omega) (by omega))
  have q4 := d.2.2 _ (hw.lt a5) (hA _ (by omega) (by omega))
  refine ⟨⟨k0.1.trans a1, k1.1.trans a2, k2.1.trans a3, k3.1.trans a4, k4.1.trans a5⟩, ⟨k1.2.trans b1, k2.2.trans b2, k3.2.trans b3, k4.2.trans b4⟩, ⟨(q0.2.1 _).trans c1, (q0.2.1 _).trans c2, (q0.2.1 _).trans c3, (q0.2.1 _).trans c4, (q0.2.1 _).trans c5⟩, ⟨(q0.1 _).trans f1, (q0.1 _).trans f2, (q0.1 _).trans f3, (q0.1 _).trans f4⟩, ?_, ?_⟩
  · rw [q1.2.2.1]; exact w
  · rw [q2.2.2.1, q3.2.2.1, q4.2.2.1]; exact t
theorem St.kl (h : St σ s E L V) : σ.kd (s + 5) = 22 := h.2.2.1.1.1
theorem St.ks (h : St σ s E L V) : σ.kd s = 17 := h.1.1.1
theorem St.cs {Y : Type} {o : Option Y} (h : St σ s E L V) : ckd σ s 17 o = o := ckd_ok h.ks
theorem St.lv (h : St σ s E L V) : Lv σ (s + 5) E L := h.2.2.1
theorem St.pl (h : St σ s E L V) : gfr σ 17 708 s = some (s + 5) := by rw [gfr_ok h.ks, h.1.2.2.1.2.2.2.2]
theorem St.u (h : St σ s E L V) : gfi σ 17 709 s = some (nI V.U) := by rw [gfi_ok h.ks, h.2.1.1]
theorem St.rt (h : St σ s E L V) : gfi σ 17 710 s = some (nI V.R) := by rw [gfi_ok h.ks, h.2.1.2]
theorem St.cp (h : St σ s E L V) : gfi σ 17 707 s = some (nI V.C) := by rw [gfi_ok h.ks, h.1.2.2.2.1.2.2.2]
theorem St.U1000 (h : St σ s E L V) : V.U ≤ 1000 := by
  have := h.2.2.2.2.2.1
  have := h.lv.1.2.2.2
  omega
theorem St.pg (h : St σ s E L V) {p : Nat} (hp : p < V.U) : ∃ a, L[p]? = some a ∧ PC σ a (V.P p) ∧ kX7_at σ s (nI p) = some a := by
  have hU := h.2.2.2.2.2.1
  have h1000 := h.U1000
  obtain ⟨a, ha⟩ : ∃ a, L[p]? = some a := ⟨L[p]'(by omega), List.getElem?_eq_getElem (by omega)⟩
  have pc := h.2.2.2.2.2.2 p a hp ha
  refine ⟨a, ha, pc, ?_⟩
  unfold kX7_at kX7_at_24
  rw [h.pl, bind_s, if_neg (nI_pos (by omega)), h.u, bind_s, if_neg (nI_ge hp (by omega)), h.lv.c, h.lv.at ha, bind_s, ckc_ok pc.1.1]
theorem St.at (h : St σ s E L V) {p a : Nat} (hp : p < V.U) (ha : L[p]? = some a) : kX7_at σ s (nI p) = some a := by
  obtain ⟨b, h1, h2, h3⟩ := h.pg hp
  rw [ha] at h1
  cases h1
  exact h3
theorem St.E_ne (h : St σ s E L V) (hn : E ≠ 1) : σ.kd E = 3 := by
  rcases h.lv.2.1 with q | q
  · exact absurd q.1 hn
  · exact q.1
theorem St.E_hd (h : St σ s E L V) (hn : E ≠ 1) : E < s ∨ s + 5 < E := by
  have hE := h.E_ne hn
  have hl := h.kl
  obtain ⟨g1, g2, g3, g4, g5⟩ := h.1.1
  rcases Nat.lt_or_ge E s with q | q
  · exact Or.inl q
  · rcases Nat.lt_or_ge (s + 5) E with z | z
    · exact Or.inr z
    · exfalso
      have : E = s ∨ E = s + 1 ∨ E = s + 2 ∨ E = s + 3 ∨ E = s + 4 ∨ E = s + 5 := by omega
      rcases this with rfl | rfl | rfl | rfl | rfl | rfl <;> simp_all
/-- nothing of a state is touched -/
theorem St.df {A : Nat → Prop} (h : St σ s E L V) (hw : Wn σ) (d : Df A σ σ') (hA : ∀ x, Fp s E L x → ¬ A x) : St σ' s E L V := by
  obtain ⟨h1, ⟨h2, h3⟩, h4, h5, h6, h7, h8⟩ := id h
  have q0 := d.2.2 s (hw.lt h.ks) (hA _ (Or.inl ⟨Nat.le_refl _, by omega⟩))
  refine ⟨h1.df hw d (fun x a b => hA x (Or.inl ⟨a, by omega⟩)), ⟨(q0.1 _).trans h2, (q0.1 _).trans h3⟩, h4.df hw d (hA _ (Or.inl ⟨by omega, by omega⟩)) (fun _ => hA _ (Or.inr (Or.inl rfl))), h5, fun a ha => (h6 a ha).df hw d (hA _ (Or.inr (Or.inr ⟨a, ha, Nat.le_refl _, by omega⟩))), h7, fun p a hp ha => (h8 p a hp ha).df hw d (fun x q1 q2 => hA _ (Or.inr (Or.inr ⟨a, List.mem_of_getElem? ha, q1, q2⟩)))⟩
/-- one page is written -/
theorem St.upd {p a : Nat} {g : Pg} (h : St σ s E L V) (hw : Wn σ) (hp : p < V.U) (ha : L[p]? = some a) (d : Df (Ap a) σ σ') (hpc : PC σ' a g) : St σ' s E L (V.sP p g) := by
  obtain ⟨h1, ⟨h2, h3⟩, h4, h5, h6, h7, h8⟩ := id h
  have pa := h6 a (List.mem_of_getElem? ha)
  have ds := pg_hd pa h1 h.kl
  have q0 := d.2.2 s (hw.lt h.ks) (fun q => by unfold Ap at q; omega)
  refine ⟨h1.df hw d (fun x a b q => by unfold Ap at q; omega), ⟨(q0.1 _).trans h2, (q0.1 _).trans h3⟩, h4.df hw d (fun q => by unfold Ap at q; omega) (fun hn => pg_row pa (h.E_ne hn)), h5, fun b hb => ?_, h7, fun q b hq hb => ?_⟩
  · by_cases e : b = a
    · rw [e]; exact hpc.1
    · have := pg_pg (h6 b hb) pa e
      exact (h6 b hb).df hw d (fun q => by unfold Ap at q; omega)
  · by_cases e : q = p
    · subst e
      rw [sP_s]
      rw [ha] at hb
      cases hb
      exact hpc
    · rw [sP_n e]
      have ne : b ≠ a := fun z => by
        subst z
        have i1 := get_lt ha
        have i2 := get_lt hb
        exact e ((List.getElem_inj h5).mp (by rw [← Option.some_inj, ← List.getElem?_eq_getElem i2, ← List.getElem?_eq_getElem i1, ha, hb]))
      have := pg_pg (h6 b (List.mem_of_getElem? hb)) pa ne
      exact (h8 q b hq hb).df hw d (fun x q1 q2 q => by unfold Ap at q; omega)
end STs
theorem kd_hO {x : Hp} {c n b : Nat} : (hO x c n).kd b = if b = x.nx then 10 + c else x.kd b := nr rfl
theorem ln_hO {x : Hp} {c n : Nat} : (hO x c n).ln = x.ln := nr rfl
theorem fi_hO {x : Hp} {c n i b : Nat} : (hO x c n).fi i b = if b = x.nx then 0 else x.fi i b := nr rfl
theorem fr_hO {x : Hp} {c n i b : Nat} : (hO x c n).fr i b = if b = x.nx then 0 else x.fr i b := nr rfl
theorem ar_hO {x : Hp} {c n : Nat} : (hO x c n).ar = x.ar := nr rfl
theorem rr_hO {x : Hp} {c n : Nat} : (hO x c n).rr = x.rr := nr rfl
theorem nx_hO {x : Hp} {c n : Nat} : (hO x c n).nx = x.nx + 1 := nr rfl
theorem us_hO {x : Hp} {c n : Nat} : (hO x c n).us = x.us + n := nr rfl
theorem kd_hA {x : Hp} {t n b : Nat} : (hA x t n).kd b = if b = x.nx then t else x.kd b := nr rfl
theorem ln_hA {x : Hp} {t n b : Nat} : (hA x t n).ln b = if b = x.nx then n else x.ln b := nr rfl
theorem fi_hA {x : Hp} {t n : Nat} : (hA x t n).fi = x.fi := nr rfl
theorem fr_hA {x : Hp} {t n : Nat} : (hA x t n).fr = x.fr := nr rfl
theorem rr_hA {x : Hp} {t n : Nat} : (hA x t n).rr = x.rr := nr rfl
theorem nx_hA {x : Hp} {t n : Nat} : (hA x t n).nx = x.nx + 1 := nr rfl
theorem us_hA {x : Hp} {t n : Nat} : (hA x t n).us = x.us + n := nr rfl
theorem c_newPage {σ : Hp} (hw : Wn σ) (hn : σ.nx + 4 ≤ NXc) (hu : σ.us + 35 ≤ UXc) : ∃ σ1 σ2, nwO σ 3 14 = some (σ.nx, σ1) ∧ kX3_init σ1 σ.nx = some σ2 ∧ PC σ2 σ.nx (mkP true none []) ∧ Wn σ2 ∧ Df (fun _ => False) σ σ2 ∧ σ2.nx = σ.nx + 4 ∧ σ2.us = σ.us + 35 := by
  have e7 : (7 : Int32) = nI 7 := rfl
  have h2 := hw.1
  refine ⟨hO σ 3 14, ?_⟩
  have k0 : (hO σ 3 14).kd σ.nx = 13 := upr_s
  have z1 := pfz_1 (i := 300) k0
  unfold kX3_init
  rw [nz_ok (by omega), bind_s, z1, bind_s, pfi_ok (show (sfi (hO σ 3 14) 300 σ.nx 1).kd σ.nx = 13 from k0), bind_s]
  generalize hσ1 : sfi (sfi (hO σ 3 14) 300 σ.nx 1) 301 σ.nx (-1) = σ1
  have k1 : σ1.kd σ.nx = 13 := by rw [← hσ1]; exact k0
  have n1 : σ1.nx = σ.nx + 1 := by rw [← hσ1]; rfl
  have u1 : σ1.us = σ.us + 14 := by rw [← hσ1]; rfl
  have w1 : Wn σ1 := by rw [← hσ1]; exact hw.nO
  have i0 : σ1.fi 300 σ.nx = 1 := by rw [← hσ1, fi_sfi, if_neg (by omega), fi_sfi, if_pos ⟨rfl, rfl⟩]
  have i1 : σ1.fi 301 σ.nx = -1 := by rw [← hσ1, fi_sfi, if_pos ⟨rfl, rfl⟩]
  have i2 : σ1.fi 302 σ.nx = 0 := by rw [← hσ1, fi_sfi, if_neg (by omega), fi_sfi, if_neg (by omega), fi_hO, if_pos rfl]
  have d1 : Df (fun _ => False) σ σ1 := by
    rw [← hσ1]
    exact (Df.nO (A := fun _ => False)).trans ((Df.xi (A := fun x => x = σ.nx) rfl).tr (Df.xi rfl)) (fun a ha q => by omega)
  rw [e7, nwA_ok (by decide) (by omega) (by omega), bd2_s, n1]
  have k2 : (hA σ1 1 7).kd σ.nx = 13 := by rw [kd_hA, if_neg (by omega)]; exact k1
  rw [pfr_ok k2, bind_s]
  generalize hσ3 : sfr (hA σ1 1 7) 303 σ.nx (σ.nx + 1) = σ3
  have k3 : σ3.kd σ.nx = 13 := by rw [← hσ3]; exact k2
  have n3 : σ3.nx = σ.nx + 2 := by rw [← hσ3]; show σ1.nx + 1 = _; omega
  have u3 : σ3.us = σ.us + 21 := by rw [← hσ3]; show σ1.us + 7 = _; omega
  have w3 : Wn σ3 := by rw [← hσ3]; exact w1.nA
  have d3 : Df (fun x => x = σ.nx) σ1 σ3 := by rw [← hσ3]; exact Df.nA.tr (Df.xr rfl)
  have f3 : σ3.fr 303 σ.nx = σ.nx + 1 := by rw [← hσ3, fr_sfr, if_pos ⟨rfl, rfl⟩]
  have m3 : σ3.kd (σ.nx + 1) = 1 ∧ σ3.ln (σ.nx + 1) = 7 := by rw [← hσ3]; exact ⟨by show (hA σ1 1 7).kd _ = 1; rw [kd_hA, if_pos n1.symm], by show (hA σ1 1 7).ln _ = 7; rw [ln_hA, if_pos n1.symm]⟩
  have j3 : σ3.fi = σ1.fi := by rw [← hσ3]; rfl
  rw [nwA_ok (by decide) (by omega) (by omega), bd2_s, n3]
  have k4 : (hA σ3 1 7).kd σ.nx = 13 := by rw [kd_hA, if_neg (by omega)]; exact k3
  rw [pfr_ok k4, bind_s]
  generalize hσ5 : sfr (hA σ3 1 7) 304 σ.nx (σ.nx + 2) = σ5
  have k5 : σ5.kd σ.nx = 13 := by rw [← hσ5]; exact k4
  have n5 : σ5.nx = σ.nx + 3 := by rw [← hσ5]; show σ3.nx + 1 = _; omega
  have u5 : σ5.us = σ.us + 28 := by rw [← hσ5]; show σ3.us + 7 = _; omega
  have w5 : Wn σ5 := by rw [← hσ5]; exact w3.nA
  have d5 : Df (fun x => x = σ.nx) σ3 σ5 := by rw [← hσ5]; exact Df.nA.tr (Df.xr rfl)
  have f5 : σ5.fr 304 σ.nx = σ.nx + 2 ∧ σ5.fr 303 σ.nx = σ.nx + 1 := by rw [← hσ5, fr_sfr, if_pos ⟨rfl, rfl⟩, fr_sfr, if_neg (by omega)]; exact ⟨rfl, f3⟩
  have m5 : σ5.kd (σ.nx + 2) = 1 ∧ σ5.ln (σ.nx + 2) = 7 := by rw [← hσ5]; exact ⟨by show (hA σ3 1 7).kd _ = 1; rw [kd_hA, if_pos n3.symm], by show (hA σ3 1 7).ln _ = 7; rw [ln_hA, if_pos n3.symm]⟩
  have m5b := d5.2.1 (σ.nx + 1) (by omega)
  have j5 : σ5.fi = σ3.fi := by rw [← hσ5]; rfl
  rw [nwA_ok (by decide) (by omega) (by omega), bd2_s, n5]
  have k6 : (hA σ5 1 7).kd σ.nx = 13 := by rw [kd_hA, if_neg (by omega)]; exact k5
  rw [pfr_ok k6, bind_s]
  generalize hσ7 : sfr (hA σ5 1 7) 305 σ.nx (σ.nx + 3) = σ7
  have k7 : σ7.kd σ.nx = 13 := by rw [← hσ7]; exact k6
  have n7 : σ7.nx = σ.nx + 4 := by rw [← hσ7]; show σ5.nx + 1 = _; omega
  have u7 : σ7.us = σ.us + 35 := by rw [← hσ7]; show σ5.us + 7 = _; omega
  have w7 : Wn σ7 := by rw [← hσ7]; exact w5.nA
  have d7 : Df (fun x => x = σ.nx) σ5 σ7 := by rw [← hσ7]; exact Df.nA.tr (Df.xr rfl)
  have f7 : σ7.fr 305 σ.nx = σ.nx + 3 ∧ σ7.fr 304 σ.nx = σ.nx + 2 ∧ σ7.fr 303 σ.nx = σ.nx + 1 := by rw [← hσ7, fr_sfr, if_pos ⟨rfl, rfl⟩, fr_sfr, if_neg (by omega), fr_sfr, if_neg (by omega)]; exact ⟨rfl, f5⟩
  have m7 : σ7.kd (σ.nx + 3) = 1 ∧ σ7.ln (σ.nx + 3) = 7 := by rw [← hσ7]; exact ⟨by show (hA σ5 1 7).kd _ = 1; rw [kd_hA, if_pos n5.symm], by show (hA σ5 1 7).ln _ = 7; rw [ln_hA, if_pos n5.symm]⟩
  have m7b := d7.2.1 (σ.nx + 1) (by omega)
  have m7c := d7.2.1 (σ.nx + 2) (by omega)
  have j7 : σ7.fi = σ5.fi := by rw [← hσ7]; rfl
  refine ⟨σ7, nwO_ok (by omega) (by omega), rfl, ⟨⟨k7, ⟨f7.2.2, f7.2.1, f7.1⟩, ⟨m7b.1.trans (m5b.1.trans m3.1), m7c.1.trans m5.1, m7.1⟩, m7b.2.trans (m5b.2.trans m3.2), m7c.2.trans m5.2, m7.2⟩, ⟨?_, ?_, ?_, by show 0 ≤ 7; omega⟩, fun k e he => by cases he⟩, w7, ((d1.trans d3 (fun a ha q => by omega)).trans d5 (fun a ha q => by omega)).trans d7 (fun a ha q => by omega), n7, u7⟩
  · rw [j7, j5, j3, i0]; rfl
  · rw [j7, j5, j3, i1]; rfl
  · rw [j7, j5, j3, i2]; rfl
def Pn (σ : Hp) (E : Nat) (L : List Nat) : Nat := σ.nx + 4 * (1000 - L.length) + (1600 - σ.ln E)
def Pu (σ : Hp) (E : Nat) (L : List Nat) : Nat := σ.us + 35 * (1000 - L.length) + 4 * (1600 - σ.ln E)
/-- what was done to one state alone -/
def Oq (s : Nat) (σ : Hp) (E : Nat) (L : List Nat) (σ' : Hp) (E' : Nat) (L' : List Nat) : Prop := Wn σ' ∧ Df (Fp s E L) σ σ' ∧ (∀ x, x < σ.nx → Fp s E' L' x → Fp s E L x) ∧ (E' = E ∨ σ.nx ≤ E') ∧ Pn σ' E' L' ≤ Pn σ E L ∧ Pu σ' E' L' ≤ Pu σ E L
theorem Oq.rfl {s E : Nat} {σ : Hp} {L : List Nat} (hw : Wn σ) : Oq s σ E L σ E L := ⟨hw, Df.rfl, fun _ _ q => q, Or.inl (Eq.refl _), Nat.le_refl _, Nat.le_refl _⟩
theorem Oq.trans {s E E1 E2 : Nat} {σ σ1 σ2 : Hp} {L L1 L2 : List Nat} (h : Oq s σ E L σ1 E1 L1) (g : Oq s σ1 E1 L1 σ2 E2 L2) : Oq s σ E L σ2 E2 L2 := by
  obtain ⟨a1, a2, a3, a4, a5, a6⟩ := h
  obtain ⟨b1, b2, b3, b4, b5, b6⟩ := g
  have hx := a2.1
  exact ⟨b1, a2.trans b2 a3, fun x hx2 q => a3 x hx2 (b3 x (by omega) q), by omega, Nat.le_trans b5 a5, Nat.le_trans b6 a6⟩
/-- one page alone -/
theorem Oq.page {s E a : Nat} {σ σ' : Hp} {L : List Nat} (hw : Wn σ) (ha : a ∈ L) (d : Dp a σ σ') : Oq s σ E L σ' E L := by
  refine ⟨d.wn hw, d.1.mono (fun x _ q => Or.inr (Or.inr ⟨a, ha, q⟩)), fun _ _ q => q, Or.inl (Eq.refl _), ?_, ?_⟩
  · unfold Pn; rw [d.2.1, d.2.2.2.2]; exact Nat.le_refl _
  · unfold Pu; rw [d.2.2.1, d.2.2.2.2]; exact Nat.le_refl _
