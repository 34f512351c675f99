section LRM
variable {σ : Hp} {l E : Nat} {L : List Nat}
theorem Lv.rem (h : Lv σ l E L) (hw : Wn σ) {k a : Nat} (hk : L[k]? = some a) (hl : L.length < 1000) : ∃ σ', kJx4a65c_remove_915e3 σ l (nI k) = some (a, σ') ∧ Lv σ' l E (L.eraseIdx k) ∧ Dm (fun x => x = l ∨ x = E) σ σ' := by
  have hkl := get_lt hk
  obtain ⟨k1, k2⟩ := h.kE hkl
  obtain ⟨⟨h1, h2, h3, h4⟩, h5, h6⟩ := id h
  have hE : 10 ≤ σ.ln E ∧ σ.ln E ≤ 1600 ∧ E ≠ 1 := by
    rcases h5 with q | q
    · rw [q.2.2.2] at hkl; exact absurd hkl (Nat.not_lt_zero _)
    · exact ⟨q.2.2.1, q.2.2.2.1, q.2.2.2.2⟩
  have lE : l ≠ E := fun z => by rw [z, k1] at h1; cases h1
  have len : (L.eraseIdx k).length = L.length - 1 := by rw [List.length_eraseIdx, if_pos hkl]
  have s1 : nI L.length - 1 = nI (L.length - 1) := by rw [show (1 : Int32) = nI 1 from rfl, pk_sub (by omega)]
  have al : ∀ x, x = l ∨ x = E → (fun x => x = l ∨ x = E) x := fun _ q => q
  unfold kJx4a65c_remove_915e3 kJ15_checkIndex_7cf53 kJ3_checkIndex_8e157
  rw [h.sz, bind_s, if_neg (nI_pos (by omega)), if_pos (nI_lt hkl (by omega)), bind_s, bind_s, h.el, bind_s, rld_ok k1 (by omega) (by omega), bind_s, h.c, (h6 k a hk).1]
  unfold kJx4a65c_fastRemove_b59b0
  rw [gfi_ok h1, bind_s, pfi_ok h1, bind_s, gfi_ok (show (sfi σ 1200 l _).kd l = 22 from h1), fi_sfi, if_neg (by omega), h3, bind_s, s1]
  -- the end of both ways
  have fin : ∀ σ1 : Hp, Dm (fun x => x = l ∨ x = E) σ σ1 → σ1.fr 1201 l = E → σ1.kd l = 22 → (∀ (j b : Nat), (L.eraseIdx k)[j]? = some b → σ1.rr E j = b) → ∃ σ', (kJx4a65c_fastRemove_b59b0_34 l E (nI (L.length - 1)) σ1).bind (fun σ5 => some (a, σ5)) = some (a, σ') ∧ Lv σ' l E (L.eraseIdx k) ∧ Dm (fun x => x = l ∨ x = E) σ σ' := by
    intro σ1 d f1 kl hr
    have kE : σ1.kd E = 3 := by rw [d.2.2.2.1]; exact k1
    have lnE : σ1.ln E = σ.ln E := by rw [d.2.2.2.2]
    unfold kJx4a65c_fastRemove_b59b0_34
    rw [pfi_ok kl, bind_s, rst_ok (show (sfi σ1 1202 l _).kd E = 3 from kE) (by rw [ln_sfi, lnE]; omega) (by omega) (Or.inl rfl), bind_s, bind_s]
    refine ⟨_, rfl, ⟨⟨kl, f1, by rw [fi_srw, fi_sfi, if_pos ⟨rfl, rfl⟩, len], by omega⟩, Or.inr ⟨kE, by rw [len]; show _ ≤ σ1.ln E; omega, by show 10 ≤ σ1.ln E; omega, by show σ1.ln E ≤ 1600; omega, hE.2.2⟩, fun j b hj => ?_⟩, d.1.tr ((Df.xi (Or.inl rfl)).tr (Df.xe (Or.inr rfl))), d.2⟩
    have hj2 := get_lt hj
    have hm : b ∈ L := List.mem_of_mem_eraseIdx (List.mem_of_getElem? hj)
    obtain ⟨i, hi⟩ := List.getElem?_of_mem hm
    rw [rr_srw]
    show (if j = L.length - 1 then 0 else σ1.rr E j) = b ∧ (σ1.kd b = 13 ∨ σ1.kd b = 17)
    rw [if_neg (by omega), hr j b hj, d.2.2.2.1]
    exact ⟨rfl, (h6 i b hi).2⟩
  have d0 : Dm (fun x => x = l ∨ x = E) σ (sfi σ 1200 l (σ.fi 1200 l + 1)) := ⟨Df.xi (Or.inl rfl), nx_sfi, us_sfi, kd_sfi, ln_sfi⟩
  by_cases z : L.length - 1 ≤ k
  · rw [if_pos (nI_le z (by omega))]
    refine fin _ d0 h2 h1 (fun j b hj => ?_)
    have hj2 := get_lt hj
    rw [List.getElem?_eraseIdx, if_pos (by omega)] at hj
    rw [rr_sfi]; exact (h6 j b hj).1
  · rw [if_neg (nI_ge (by omega) (by omega)), nI_1, pk_sub (by omega), cpR_ok (show (sfi σ 1200 l _).kd E = 3 from k1) (show (sfi σ 1200 l _).kd E = 3 from k1) (by rw [ln_sfi]; omega) (by rw [ln_sfi]; omega) (by omega) (by omega) (by omega), bind_s]
    refine fin _ ⟨d0.1.tr (Df.xe (Or.inr rfl)), rfl, rfl, rfl, rfl⟩ h2 h1 (fun j b hj => ?_)
    have hj2 := get_lt hj
    rw [rr_srw, rr_sfi]
    rw [List.getElem?_eraseIdx] at hj
    by_cases y : j < k
    · rw [if_pos y] at hj
      rw [pk_cpy_out (by omega)]; exact (h6 j b hj).1
    · rw [if_neg y] at hj
      rw [pk_cpy_in (by omega) (by omega), show k + 1 + (j - k) = j + 1 by omega]; exact (h6 _ b hj).1
theorem Lv.clear (h : Lv σ l E L) (hw : Wn σ) : ∃ σ', kJx4a65c_clear_da8c8 σ l = some σ' ∧ Lv σ' l E [] ∧ Dm (fun x => x = l ∨ x = E) σ σ' := by
  obtain ⟨⟨h1, h2, h3, h4⟩, h5, h6⟩ := id h
  unfold kJx4a65c_clear_da8c8
  rw [gfi_ok h1, bind_s, pfi_ok h1, bind_s, gfr_ok (show (sfi σ 1200 l _).kd l = 22 from h1), fr_sfi, h2, bind_s, gfi_ok (show (sfi σ 1200 l _).kd l = 22 from h1), fi_sfi, if_neg (by omega), h3, bind_s, pfi_ok (show (sfi σ 1200 l _).kd l = 22 from h1), bind_s]
  generalize hs1 : sfi (sfi σ 1200 l (σ.fi 1200 l + 1)) 1202 l 0 = σ1
  have d1 : Dm (fun x => x = l ∨ x = E) σ σ1 := by rw [← hs1]; exact ⟨(Df.xi (Or.inl rfl)).tr (Df.xi (Or.inl rfl)), rfl, rfl, rfl, rfl⟩
  have i1 : σ1.fi 1202 l = 0 := by rw [← hs1, fi_sfi, if_pos ⟨rfl, rfl⟩]
  have f1 : σ1.fr 1201 l = E := by rw [← hs1]; exact h2
  have lo := lp L.length (fun F k (s : Hp) => kJx4a65c_clear_da8c8_27 F E (nI L.length) (nI k) s) (fun k s => Dm (fun x => x = l ∨ x = E) σ s ∧ s.fi 1202 l = 0 ∧ s.fr 1201 l = E) (fun r => ∃ s, r = some s ∧ Dm (fun x => x = l ∨ x = E) σ s ∧ s.fi 1202 l = 0 ∧ s.fr 1201 l = E) (fun F s J => ?_) (fun F k s hk J => Or.inl ?_) L.length 0 FU σ1 (FU_gt (by omega)) (by omega) ⟨d1, i1, f1⟩
  · obtain ⟨s, g1, g2, g3, g4⟩ := lo
    refine ⟨s, g1, ⟨⟨by rw [g2.2.2.2.1]; exact h1, g4, g3, by show 0 ≤ 1000; omega⟩, ?_, fun j b hj => by cases hj⟩, g2⟩
    rcases h5 with q | q
    · exact Or.inl ⟨q.1, by rw [g2.2.2.2.1]; exact q.2.1, by rw [g2.2.2.2.2]; exact q.2.2.1, rfl⟩
    · exact Or.inr ⟨by rw [g2.2.2.2.1]; exact q.1, Nat.zero_le _, by rw [g2.2.2.2.2]; exact q.2.2.1, by rw [g2.2.2.2.2]; exact q.2.2.2.1, q.2.2.2.2⟩
  · refine ⟨s, ?_, J⟩
    show kJx4a65c_clear_da8c8_27 (F + 1) E (nI L.length) (nI L.length) s = _
    rw [kJx4a65c_clear_da8c8_27.eq_2, if_pos (nI_le (Nat.le_refl _) (by omega))]
  · obtain ⟨j1, j2, j3⟩ := J
    obtain ⟨k1, k2⟩ := h.kE hk
    show ∃ a', _ ∧ kJx4a65c_clear_da8c8_27 (F + 1) E (nI L.length) (nI k) s = _
    rw [kJx4a65c_clear_da8c8_27.eq_2, if_neg (nI_ge hk (by omega)), rst_ok (by rw [j1.2.2.2.1]; exact k1) (by rw [j1.2.2.2.2]; omega) (by omega) (Or.inl rfl), bind_s, nI_1]
    exact ⟨_, ⟨⟨j1.1.tr (Df.xe (Or.inr rfl)), j1.2⟩, j2, j3⟩, rfl⟩
end LRM
section CPY
variable {σ : Hp} {s o E E' : Nat} {L L' : List Nat} {V V0 : Vt}
/-- the head of a state is copied -/
theorem c_copyHead (h : Hd σ s V0) (g : Hd σ o V) (hl : V.T.length ≤ 16) (hd : o + 4 < s ∨ s + 4 < o) : ∃ σ', kX7_copyFrom σ s o = kX7_copyFrom_105 FU s o 0 σ' ∧ Hd σ' s V ∧ Dm (fun x => s ≤ x ∧ x ≤ s + 4) σ σ' ∧ σ'.fi 709 s = 0 ∧ (∀ i, i = 710 ∨ i = 711 ∨ i = 712 → σ'.fi i s = σ.fi i s) ∧ (∀ i, σ'.fr i s = σ.fr i s) := by
  obtain ⟨⟨a1, a2, a3, a4, a5⟩, ⟨a6, a7, a8, a9⟩, ⟨a10, a11, a12, a13, a14⟩, ⟨a15, a16, a17, a18⟩, a19, a20⟩ := id h
  obtain ⟨⟨b1, b2, b3, b4, b5⟩, ⟨b6, b7, b8, b9⟩, ⟨b10, b11, b12, b13, b14⟩, ⟨b15, b16, b17, b18⟩, b19, b20⟩ := id g
  have e0 : (0 : Int32) = nI 0 := rfl
  have e40 : (40 : Int32) = nI 40 := rfl
  have n0 : ¬ o = s := by omega
  have c1 : o + 1 ≠ s + 1 := by omega
  have c2 : o + 2 ≠ s + 1 := by omega
  have c3 : o + 3 ≠ s + 1 := by omega
  have c4 : o + 4 ≠ s + 1 := by omega
  have c5 : o + 2 ≠ s + 2 := by omega
  have c6 : o + 3 ≠ s + 2 := by omega
  have c7 : o + 4 ≠ s + 2 := by omega
  have c8 : o + 3 ≠ s + 3 := by omega
  have c9 : o + 4 ≠ s + 3 := by omega
  have c10 : s + 2 ≠ s + 1 := by omega
  have c11 : s + 3 ≠ s + 1 := by omega
  have c12 : s + 4 ≠ s + 1 := by omega
  have c13 : s + 3 ≠ s + 2 := by omega
  have c14 : s + 4 ≠ s + 2 := by omega
  have c15 : s + 4 ≠ s + 3 := by omega
  have c16 : o + 4 ≠ s + 4 := by omega
  have A : ∀ x, s ≤ x → x ≤ s + 4 → (fun x => s ≤ x ∧ x ≤ s + 4) x := fun x q1 q2 => ⟨q1, q2⟩
  unfold kX7_copyFrom
  simp (disch := first | assumption | omega | (simp only [kd_sfi, ln_sfi, fr_sfi, ar_sfi, rr_sfi, nx_sfi, us_sfi, kd_saw, ln_saw, fi_saw, fr_saw, rr_saw, nx_saw, us_saw, kd_srw, ln_srw, fi_srw, fr_srw, ar_srw, nx_srw, us_srw, kd_sfr, ln_sfr, fi_sfr, ar_sfr, rr_sfr, nx_sfr, us_sfr, fi_sfi, fr_sfr, and_true, true_and, and_false, false_and, if_true, if_false, ite_true, ite_false, eq_self, Nat.reduceEqDiff, reduceIte, a1, a2, a3, a4, a5, a6, a7, a8, a9, a10, a11, a12, a13, b1, b2, b3, b4, b5, b6, b7, b8, b9, b10, b11, b12, b13, b15, b16, b17, b18] <;> omega) | fail) only [gfi_ok, gfr_ok, pfi_ok, pfr_ok, cpI_ok, cpR_ok, ast_saw, ald_ok, rld_ok, rst_ok, aln_ok, ckd_ok, ckc_ok, bind_s, bd2_s, nI_1, ar_saw, ar_saw_ne, rr_srw, rr_srw_ne, kd_sfi, ln_sfi, fr_sfi, ar_sfi, rr_sfi, nx_sfi, us_sfi, kd_saw, ln_saw, fi_saw, fr_saw, rr_saw, nx_saw, us_saw, kd_srw, ln_srw, fi_srw, fr_srw, ar_srw, nx_srw, us_srw, kd_sfr, ln_sfr, fi_sfr, ar_sfr, rr_sfr, nx_sfr, us_sfr, fi_sfi, fr_sfr, and_true, true_and, and_false, false_and, if_true, if_false, ite_true, ite_false, eq_self, Nat.reduceEqDiff, reduceIte, a1, a2, a3, a4, a5, a6, a7, a8, a9, a10, a11, a12, a13, b1, b2, b3, b4, b5, b6, b7, b8, b9, b10, b11, b12, b13, b15, b16, b17, b18, e0, e40, n0]
  refine ⟨_, rfl, ⟨⟨a1, a2, a3, a4, a5⟩, ⟨a6, a7, a8, a9⟩, ⟨a10, a11, a12, a13, a14⟩, ⟨?_, ?_, ?_, ?_⟩, fun t ht => ?_, fun k e he => ?_⟩, ⟨by repeat (with_reducible first | refine Df.xa' ?_ (A _ (by omega) (by omega)) | refine Df.xi' ?_ (A _ (by omega) (by omega)) | refine Df.xr' ?_ (A _ (by omega) (by omega)) | refine Df.xe' ?_ (A _ (by omega) (by omega)) | exact Df.rfl), rfl, rfl, rfl, rfl⟩, ?_, fun i hi => ?_, fun i => rfl⟩
  · simp only [kd_sfi, ln_sfi, fr_sfi, ar_sfi, rr_sfi, nx_sfi, us_sfi, kd_saw, ln_saw, fi_saw, fr_saw, rr_saw, nx_saw, us_saw, kd_srw, ln_srw, fi_srw, fr_srw, ar_srw, nx_srw, us_srw, kd_sfr, ln_sfr, fi_sfr, ar_sfr, rr_sfr, nx_sfr, us_sfr, fi_sfi, fr_sfr, and_true, true_and, and_false, false_and, if_true, if_false, ite_true, ite_false, eq_self, Nat.reduceEqDiff, reduceIte]
  · simp only [kd_sfi, ln_sfi, fr_sfi, ar_sfi, rr_sfi, nx_sfi, us_sfi, kd_saw, ln_saw, fi_saw, fr_saw, rr_saw, nx_saw, us_saw, kd_srw, ln_srw, fi_srw, fr_srw, ar_srw, nx_srw, us_srw, kd_sfr, ln_sfr, fi_sfr, ar_sfr, rr_sfr, nx_sfr, us_sfr, fi_sfi, fr_sfr, and_true, true_and, and_false, false_and, if_true, if_false, ite_true, ite_false, eq_self, Nat.reduceEqDiff, reduceIte]
  · simp only [kd_sfi, ln_sfi, fr_sfi, ar_sfi, rr_sfi, nx_sfi, us_sfi, kd_saw, ln_saw, fi_saw, fr_saw, rr_saw, nx_saw, us_saw, kd_srw, ln_srw, fi_srw, fr_srw, ar_srw, nx_srw, us_srw, kd_sfr, ln_sfr, fi_sfr, ar_sfr, rr_sfr, nx_sfr, us_sfr, fi_sfi, fr_sfr, and_true, true_and, and_false, false_and, if_true, if_false, ite_true, ite_false, eq_self, Nat.reduceEqDiff, reduceIte]
  · simp only [kd_sfi, ln_sfi, fr_sfi, ar_sfi, rr_sfi, nx_sfi, us_sfi, kd_saw, ln_saw, fi_saw, fr_saw, rr_saw, nx_saw, us_saw, kd_srw, ln_srw, fi_srw, fr_srw, ar_srw, nx_srw, us_srw, kd_sfr, ln_sfr, fi_sfr, ar_sfr, rr_sfr, nx_sfr, us_sfr, fi_sfi, fr_sfr, and_true, true_and, and_false, false_and, if_true, if_false, ite_true, ite_false, eq_self, Nat.reduceEqDiff, reduceIte]
  · simp (disch := first | assumption | omega) only [ar_saw, ar_saw_ne, ar_sfi, pk_cpy_in, Nat.zero_add, Nat.sub_zero]
    exact b19 t ht
  · have hk := get_lt he
    simp (disch := first | assumption | omega) only [ar_saw, ar_saw_ne, ar_sfi, pk_cpy_in, Nat.zero_add, Nat.sub_zero]
    exact b20 k e he
  · simp only [kd_sfi, ln_sfi, fr_sfi, ar_sfi, rr_sfi, nx_sfi, us_sfi, kd_saw, ln_saw, fi_saw, fr_saw, rr_saw, nx_saw, us_saw, kd_srw, ln_srw, fi_srw, fr_srw, ar_srw, nx_srw, us_srw, kd_sfr, ln_sfr, fi_sfr, ar_sfr, rr_sfr, nx_sfr, us_sfr, fi_sfi, fr_sfr, and_true, true_and, and_false, false_and, if_true, if_false, ite_true, ite_false, eq_self, Nat.reduceEqDiff, reduceIte]
  · rcases hi with rfl | rfl | rfl <;> simp only [kd_sfi, ln_sfi, fr_sfi, ar_sfi, rr_sfi, nx_sfi, us_sfi, kd_saw, ln_saw, fi_saw, fr_saw, rr_saw, nx_saw, us_saw, kd_srw, ln_srw, fi_srw, fr_srw, ar_srw, nx_srw, us_srw, kd_sfr, ln_sfr, fi_sfr, ar_sfr, rr_sfr, nx_sfr, us_sfr, fi_sfi, fr_sfr, and_true, true_and, and_false, false_and, if_true, if_false, ite_true, ite_false, eq_self, Nat.reduceEqDiff, reduceIte]
end CPY
