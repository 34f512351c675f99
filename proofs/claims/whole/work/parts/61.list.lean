theorem kd_saw {x : Hp} {a : Nat} {f : Nat → Int32} : (saw x a f).kd = x.kd := nr rfl
theorem ln_saw {x : Hp} {a : Nat} {f : Nat → Int32} : (saw x a f).ln = x.ln := nr rfl
theorem fi_saw {x : Hp} {a : Nat} {f : Nat → Int32} : (saw x a f).fi = x.fi := nr rfl
theorem fr_saw {x : Hp} {a : Nat} {f : Nat → Int32} : (saw x a f).fr = x.fr := nr rfl
theorem rr_saw {x : Hp} {a : Nat} {f : Nat → Int32} : (saw x a f).rr = x.rr := nr rfl
theorem nx_saw {x : Hp} {a : Nat} {f : Nat → Int32} : (saw x a f).nx = x.nx := nr rfl
theorem us_saw {x : Hp} {a : Nat} {f : Nat → Int32} : (saw x a f).us = x.us := nr rfl
theorem kd_srw {x : Hp} {a : Nat} {f : Nat → Nat} : (srw x a f).kd = x.kd := nr rfl
theorem ln_srw {x : Hp} {a : Nat} {f : Nat → Nat} : (srw x a f).ln = x.ln := nr rfl
theorem fi_srw {x : Hp} {a : Nat} {f : Nat → Nat} : (srw x a f).fi = x.fi := nr rfl
theorem fr_srw {x : Hp} {a : Nat} {f : Nat → Nat} : (srw x a f).fr = x.fr := nr rfl
theorem ar_srw {x : Hp} {a : Nat} {f : Nat → Nat} : (srw x a f).ar = x.ar := nr rfl
theorem nx_srw {x : Hp} {a : Nat} {f : Nat → Nat} : (srw x a f).nx = x.nx := nr rfl
theorem us_srw {x : Hp} {a : Nat} {f : Nat → Nat} : (srw x a f).us = x.us := nr rfl
section PGs
variable {σ : Hp} {a : Nat} {p : Pg}
theorem c_insertEntry (h : PC σ a p) {k : Nat} {t r b : Nat} {vb : Int32} (hk : k ≤ p.es.length) (hl : p.es.length < 7) (hb : p.lf = false → vb = nI b) : ∃ σ', kX3_insertEntry σ a (nI k) (nI t) (nI r) vb = some σ' ∧ PC σ' a (mkP p.lf p.ce (insE p.es k (t, r, b))) ∧ Dp a σ σ' := by
  have hpg := h.1
  obtain ⟨⟨h1, ⟨h2, h3, h4⟩, ⟨h5, h6, h7⟩, h8, h9, h10⟩, ⟨h11, h12, h13, h14⟩, h15⟩ := h
  have s1 : nI p.es.length - nI k = nI (p.es.length - k) := pk_sub hk
  have e7 : (7 : Int32) = nI 7 := rfl
  have n0 : ¬ nI 7 ≤ nI p.es.length := nI_ge hl (by decide)
  have n1 : ¬ nI k < 0 := nI_pos (by omega)
  have n2 : nI k ≤ nI p.es.length := nI_le hk (by omega)
  unfold kX3_insertEntry
  rw [gfi_ok h1, bind_s, h13, e7, if_neg n0, if_neg n1, bind_s, if_pos n2]
  simp (disch := first | assumption | omega | (simp only [kd_sfi, ln_sfi, fr_sfi, ar_sfi, rr_sfi, nx_sfi, us_sfi, kd_saw, ln_saw, fi_saw, fr_saw, rr_saw, nx_saw, us_saw, kd_srw, ln_srw, fi_srw, fr_srw, ar_srw, nx_srw, us_srw, kd_sfr, ln_sfr, fi_sfr, ar_sfr, rr_sfr, nx_sfr, us_sfr, fi_sfi, fr_sfr, and_true, true_and, and_false, false_and, if_true, if_false, ite_true, ite_false, eq_self, Nat.reduceEqDiff, reduceIte, h1, h2, h3, h4, h5, h6, h7, h8, h9, h10] <;> omega) | fail) only [gfi_ok, gfr_ok, pfi_ok, pfr_ok, cpI_ok, cpR_ok, ast_saw, ald_ok, rld_ok, rst_ok, aln_ok, ckd_ok, ckc_ok, bind_s, bd2_s, nI_1, ar_saw, ar_saw_ne, rr_srw, rr_srw_ne, kd_sfi, ln_sfi, fr_sfi, ar_sfi, rr_sfi, nx_sfi, us_sfi, kd_saw, ln_saw, fi_saw, fr_saw, rr_saw, nx_saw, us_saw, kd_srw, ln_srw, fi_srw, fr_srw, ar_srw, nx_srw, us_srw, kd_sfr, ln_sfr, fi_sfr, ar_sfr, rr_sfr, nx_sfr, us_sfr, fi_sfi, fr_sfr, and_true, true_and, and_false, false_and, if_true, if_false, ite_true, ite_false, eq_self, Nat.reduceEqDiff, reduceIte, h1, h2, h3, h4, h5, h6, h7, h8, h9, h10, h13, s1]
  have A : ∀ x, a ≤ x → x ≤ a + 3 → Ap a x := fun x q1 q2 => ⟨q1, q2⟩
  refine ⟨_, rfl, ⟨PG.cg hpg (by simp only [kd_sfi, ln_sfi, fr_sfi, ar_sfi, rr_sfi, nx_sfi, us_sfi, kd_saw, ln_saw, fi_saw, fr_saw, rr_saw, nx_saw, us_saw, kd_srw, ln_srw, fi_srw, fr_srw, ar_srw, nx_srw, us_srw, kd_sfr, ln_sfr, fi_sfr, ar_sfr, rr_sfr, nx_sfr, us_sfr, fi_sfi, fr_sfr, and_true, true_and, and_false, false_and, if_true, if_false, ite_true, ite_false, eq_self, Nat.reduceEqDiff, reduceIte]) (by simp only [kd_sfi, ln_sfi, fr_sfi, ar_sfi, rr_sfi, nx_sfi, us_sfi, kd_saw, ln_saw, fi_saw, fr_saw, rr_saw, nx_saw, us_saw, kd_srw, ln_srw, fi_srw, fr_srw, ar_srw, nx_srw, us_srw, kd_sfr, ln_sfr, fi_sfr, ar_sfr, rr_sfr, nx_sfr, us_sfr, fi_sfi, fr_sfr, and_true, true_and, and_false, false_and, if_true, if_false, ite_true, ite_false, eq_self, Nat.reduceEqDiff, reduceIte]) (by simp only [kd_sfi, ln_sfi, fr_sfi, ar_sfi, rr_sfi, nx_sfi, us_sfi, kd_saw, ln_saw, fi_saw, fr_saw, rr_saw, nx_saw, us_saw, kd_srw, ln_srw, fi_srw, fr_srw, ar_srw, nx_srw, us_srw, kd_sfr, ln_sfr, fi_sfr, ar_sfr, rr_sfr, nx_sfr, us_sfr, fi_sfi, fr_sfr, and_true, true_and, and_false, false_and, if_true, if_false, ite_true, ite_false, eq_self, Nat.reduceEqDiff, reduceIte]), ⟨by simp only [kd_sfi, ln_sfi, fr_sfi, ar_sfi, rr_sfi, nx_sfi, us_sfi, kd_saw, ln_saw, fi_saw, fr_saw, rr_saw, nx_saw, us_saw, kd_srw, ln_srw, fi_srw, fr_srw, ar_srw, nx_srw, us_srw, kd_sfr, ln_sfr, fi_sfr, ar_sfr, rr_sfr, nx_sfr, us_sfr, fi_sfi, fr_sfr, and_true, true_and, and_false, false_and, if_true, if_false, ite_true, ite_false, eq_self, Nat.reduceEqDiff, reduceIte, h11]; rfl, by simp only [kd_sfi, ln_sfi, fr_sfi, ar_sfi, rr_sfi, nx_sfi, us_sfi, kd_saw, ln_saw, fi_saw, fr_saw, rr_saw, nx_saw, us_saw, kd_srw, ln_srw, fi_srw, fr_srw, ar_srw, nx_srw, us_srw, kd_sfr, ln_sfr, fi_sfr, ar_sfr, rr_sfr, nx_sfr, us_sfr, fi_sfi, fr_sfr, and_true, true_and, and_false, false_and, if_true, if_false, ite_true, ite_false, eq_self, Nat.reduceEqDiff, reduceIte, h12]; rfl, ?_, ?_⟩, fun j e he => ?_⟩, ⟨by repeat (with_reducible first | refine Df.xa' ?_ (A _ (by omega) (by omega)) | refine Df.xi' ?_ (A _ (by omega) (by omega)) | refine Df.xr' ?_ (A _ (by omega) (by omega)) | refine Df.xe' ?_ (A _ (by omega) (by omega)) | exact Df.rfl), by simp only [kd_sfi, ln_sfi, fr_sfi, ar_sfi, rr_sfi, nx_sfi, us_sfi, kd_saw, ln_saw, fi_saw, fr_saw, rr_saw, nx_saw, us_saw, kd_srw, ln_srw, fi_srw, fr_srw, ar_srw, nx_srw, us_srw, kd_sfr, ln_sfr, fi_sfr, ar_sfr, rr_sfr, nx_sfr, us_sfr, fi_sfi, fr_sfr, and_true, true_and, and_false, false_and, if_true, if_false, ite_true, ite_false, eq_self, Nat.reduceEqDiff, reduceIte], by simp only [kd_sfi, ln_sfi, fr_sfi, ar_sfi, rr_sfi, nx_sfi, us_sfi, kd_saw, ln_saw, fi_saw, fr_saw, rr_saw, nx_saw, us_saw, kd_srw, ln_srw, fi_srw, fr_srw, ar_srw, nx_srw, us_srw, kd_sfr, ln_sfr, fi_sfr, ar_sfr, rr_sfr, nx_sfr, us_sfr, fi_sfi, fr_sfr, and_true, true_and, and_false, false_and, if_true, if_false, ite_true, ite_false, eq_self, Nat.reduceEqDiff, reduceIte], by simp only [kd_sfi, ln_sfi, fr_sfi, ar_sfi, rr_sfi, nx_sfi, us_sfi, kd_saw, ln_saw, fi_saw, fr_saw, rr_saw, nx_saw, us_saw, kd_srw, ln_srw, fi_srw, fr_srw, ar_srw, nx_srw, us_srw, kd_sfr, ln_sfr, fi_sfr, ar_sfr, rr_sfr, nx_sfr, us_sfr, fi_sfi, fr_sfr, and_true, true_and, and_false, false_and, if_true, if_false, ite_true, ite_false, eq_self, Nat.reduceEqDiff, reduceIte], by simp only [kd_sfi, ln_sfi, fr_sfi, ar_sfi, rr_sfi, nx_sfi, us_sfi, kd_saw, ln_saw, fi_saw, fr_saw, rr_saw, nx_saw, us_saw, kd_srw, ln_srw, fi_srw, fr_srw, ar_srw, nx_srw, us_srw, kd_sfr, ln_sfr, fi_sfr, ar_sfr, rr_sfr, nx_sfr, us_sfr, fi_sfi, fr_sfr, and_true, true_and, and_false, false_and, if_true, if_false, ite_true, ite_false, eq_self, Nat.reduceEqDiff, reduceIte]⟩⟩
  · rw [fi_sfi, if_pos ⟨rfl, rfl⟩]
    show _ = nI (insE p.es k (t, r, b)).length
    rw [insE_len]
  · show (insE p.es k (t, r, b)).length ≤ 7
    rw [insE_len]; omega
  · have he : (insE p.es k (t, r, b))[j]? = some e := he
    have hj := get_lt he
    rw [insE_len] at hj
    rw [insE_get hk] at he
    rw [ar_sfi]
    simp (disch := omega) only [ar_saw, ar_saw_ne]
    by_cases q1 : j < k
    · rw [if_pos q1] at he
      rw [upd_n (by omega), upd_n (by omega), upd_n (by omega), pk_cpy_out (by omega), pk_cpy_out (by omega), pk_cpy_out (by omega)]
      exact h15 j e he
    · rw [if_neg q1] at he
      by_cases q2 : j = k
      · rw [if_pos q2] at he
        cases he
        subst q2
        rw [upd_s, upd_s, upd_s]
        exact ⟨rfl, rfl, hb⟩
      · rw [if_neg q2] at he
        rw [upd_n q2, upd_n q2, upd_n q2, pk_cpy_in (by omega) (by omega), pk_cpy_in (by omega) (by omega), pk_cpy_in (by omega) (by omega)]
        have : k + (j - (k + 1)) = j - 1 := by omega
        rw [this]
        exact h15 _ e he
theorem c_setEntry (h : PC σ a p) {k : Nat} {t r b : Nat} {vb : Int32} (hk : k < p.es.length) (hb : p.lf = false → vb = nI b) : ∃ σ', kX3_setEntry σ a (nI k) (nI t) (nI r) vb = some σ' ∧ PC σ' a (mkP p.lf p.ce (p.es.set k (t, r, b))) ∧ Dp a σ σ' := by
  have hpg := h.1
  obtain ⟨⟨h1, ⟨h2, h3, h4⟩, ⟨h5, h6, h7⟩, h8, h9, h10⟩, ⟨h11, h12, h13, h14⟩, h15⟩ := h
  unfold kX3_setEntry
  simp (disch := first | assumption | omega | (simp only [kd_sfi, ln_sfi, fr_sfi, ar_sfi, rr_sfi, nx_sfi, us_sfi, kd_saw, ln_saw, fi_saw, fr_saw, rr_saw, nx_saw, us_saw, kd_srw, ln_srw, fi_srw, fr_srw, ar_srw, nx_srw, us_srw, kd_sfr, ln_sfr, fi_sfr, ar_sfr, rr_sfr, nx_sfr, us_sfr, fi_sfi, fr_sfr, and_true, true_and, and_false, false_and, if_true, if_false, ite_true, ite_false, eq_self, Nat.reduceEqDiff, reduceIte, h1, h2, h3, h4, h5, h6, h7, h8, h9, h10] <;> omega) | fail) only [gfi_ok, gfr_ok, pfi_ok, pfr_ok, cpI_ok, cpR_ok, ast_saw, ald_ok, rld_ok, rst_ok, aln_ok, ckd_ok, ckc_ok, bind_s, bd2_s, nI_1, ar_saw, ar_saw_ne, rr_srw, rr_srw_ne, kd_sfi, ln_sfi, fr_sfi, ar_sfi, rr_sfi, nx_sfi, us_sfi, kd_saw, ln_saw, fi_saw, fr_saw, rr_saw, nx_saw, us_saw, kd_srw, ln_srw, fi_srw, fr_srw, ar_srw, nx_srw, us_srw, kd_sfr, ln_sfr, fi_sfr, ar_sfr, rr_sfr, nx_sfr, us_sfr, fi_sfi, fr_sfr, and_true, true_and, and_false, false_and, if_true, if_false, ite_true, ite_false, eq_self, Nat.reduceEqDiff, reduceIte, h1, h2, h3, h4, h5, h6, h7, h8, h9, h10]
  have A : ∀ x, a ≤ x → x ≤ a + 3 → Ap a x := fun x q1 q2 => ⟨q1, q2⟩
  refine ⟨_, rfl, ⟨PG.cg hpg (by simp only [kd_sfi, ln_sfi, fr_sfi, ar_sfi, rr_sfi, nx_sfi, us_sfi, kd_saw, ln_saw, fi_saw, fr_saw, rr_saw, nx_saw, us_saw, kd_srw, ln_srw, fi_srw, fr_srw, ar_srw, nx_srw, us_srw, kd_sfr, ln_sfr, fi_sfr, ar_sfr, rr_sfr, nx_sfr, us_sfr, fi_sfi, fr_sfr, and_true, true_and, and_false, false_and, if_true, if_false, ite_true, ite_false, eq_self, Nat.reduceEqDiff, reduceIte]) (by simp only [kd_sfi, ln_sfi, fr_sfi, ar_sfi, rr_sfi, nx_sfi, us_sfi, kd_saw, ln_saw, fi_saw, fr_saw, rr_saw, nx_saw, us_saw, kd_srw, ln_srw, fi_srw, fr_srw, ar_srw, nx_srw, us_srw, kd_sfr, ln_sfr, fi_sfr, ar_sfr, rr_sfr, nx_sfr, us_sfr, fi_sfi, fr_sfr, and_true, true_and, and_false, false_and, if_true, if_false, ite_true, ite_false, eq_self, Nat.reduceEqDiff, reduceIte]) (by simp only [kd_sfi, ln_sfi, fr_sfi, ar_sfi, rr_sfi, nx_sfi, us_sfi, kd_saw, ln_saw, fi_saw, fr_saw, rr_saw, nx_saw, us_saw, kd_srw, ln_srw, fi_srw, fr_srw, ar_srw, nx_srw, us_srw, kd_sfr, ln_sfr, fi_sfr, ar_sfr, rr_sfr, nx_sfr, us_sfr, fi_sfi, fr_sfr, and_true, true_and, and_false, false_and, if_true, if_false, ite_true, ite_false, eq_self, Nat.reduceEqDiff, reduceIte]), ⟨by simp only [kd_sfi, ln_sfi, fr_sfi, ar_sfi, rr_sfi, nx_sfi, us_sfi, kd_saw, ln_saw, fi_saw, fr_saw, rr_saw, nx_saw, us_saw, kd_srw, ln_srw, fi_srw, fr_srw, ar_srw, nx_srw, us_srw, kd_sfr, ln_sfr, fi_sfr, ar_sfr, rr_sfr, nx_sfr, us_sfr, fi_sfi, fr_sfr, and_true, true_and, and_false, false_and, if_true, if_false, ite_true, ite_false, eq_self, Nat.reduceEqDiff, reduceIte, h11]; rfl, by simp only [kd_sfi, ln_sfi, fr_sfi, ar_sfi, rr_sfi, nx_sfi, us_sfi, kd_saw, ln_saw, fi_saw, fr_saw, rr_saw, nx_saw, us_saw, kd_srw, ln_srw, fi_srw, fr_srw, ar_srw, nx_srw, us_srw, kd_sfr, ln_sfr, fi_sfr, ar_sfr, rr_sfr, nx_sfr, us_sfr, fi_sfi, fr_sfr, and_true, true_and, and_false, false_and, if_true, if_false, ite_true, ite_false, eq_self, Nat.reduceEqDiff, reduceIte, h12]; rfl, ?_, ?_⟩, fun j e he => ?_⟩, ⟨by repeat (with_reducible first | refine Df.xa' ?_ (A _ (by omega) (by omega)) | refine Df.xi' ?_ (A _ (by omega) (by omega)) | refine Df.xr' ?_ (A _ (by omega) (by omega)) | refine Df.xe' ?_ (A _ (by omega) (by omega)) | exact Df.rfl), by simp only [kd_sfi, ln_sfi, fr_sfi, ar_sfi, rr_sfi, nx_sfi, us_sfi, kd_saw, ln_saw, fi_saw, fr_saw, rr_saw, nx_saw, us_saw, kd_srw, ln_srw, fi_srw, fr_srw, ar_srw, nx_srw, us_srw, kd_sfr, ln_sfr, fi_sfr, ar_sfr, rr_sfr, nx_sfr, us_sfr, fi_sfi, fr_sfr, and_true, true_and, and_false, false_and, if_true, if_false, ite_true, ite_false, eq_self, Nat.reduceEqDiff, reduceIte], by simp only [kd_sfi, ln_sfi, fr_sfi, ar_sfi, rr_sfi, nx_sfi, us_sfi, kd_saw, ln_saw, fi_saw, fr_saw, rr_saw, nx_saw, us_saw, kd_srw, ln_srw, fi_srw, fr_srw, ar_srw, nx_srw, us_srw, kd_sfr, ln_sfr, fi_sfr, ar_sfr, rr_sfr, nx_sfr, us_sfr, fi_sfi, fr_sfr, and_true, true_and, and_false, false_and, if_true, if_false, ite_true, ite_false, eq_self, Nat.reduceEqDiff, reduceIte], by simp only [kd_sfi, ln_sfi, fr_sfi, ar_sfi, rr_sfi, nx_sfi, us_sfi, kd_saw, ln_saw, fi_saw, fr_saw, rr_saw, nx_saw, us_saw, kd_srw, ln_srw, fi_srw, fr_srw, ar_srw, nx_srw, us_srw, kd_sfr, ln_sfr, fi_sfr, ar_sfr, rr_sfr, nx_sfr, us_sfr, fi_sfi, fr_sfr, and_true, true_and, and_false, false_and, if_true, if_false, ite_true, ite_false, eq_self, Nat.reduceEqDiff, reduceIte], by simp only [kd_sfi, ln_sfi, fr_sfi, ar_sfi, rr_sfi, nx_sfi, us_sfi, kd_saw, ln_saw, fi_saw, fr_saw, rr_saw, nx_saw, us_saw, kd_srw, ln_srw, fi_srw, fr_srw, ar_srw, nx_srw, us_srw, kd_sfr, ln_sfr, fi_sfr, ar_sfr, rr_sfr, nx_sfr, us_sfr, fi_sfi, fr_sfr, and_true, true_and, and_false, false_and, if_true, if_false, ite_true, ite_false, eq_self, Nat.reduceEqDiff, reduceIte]⟩⟩
  · show _ = nI (p.es.set k (t, r, b)).length
    simp only [kd_sfi, ln_sfi, fr_sfi, ar_sfi, rr_sfi, nx_sfi, us_sfi, kd_saw, ln_saw, fi_saw, fr_saw, rr_saw, nx_saw, us_saw, kd_srw, ln_srw, fi_srw, fr_srw, ar_srw, nx_srw, us_srw, kd_sfr, ln_sfr, fi_sfr, ar_sfr, rr_sfr, nx_sfr, us_sfr, fi_sfi, fr_sfr, and_true, true_and, and_false, false_and, if_true, if_false, ite_true, ite_false, eq_self, Nat.reduceEqDiff, reduceIte, h13, List.length_set]
  · show (p.es.set k (t, r, b)).length ≤ 7
    rw [List.length_set]
    exact h14
  · have he : (p.es.set k (t, r, b))[j]? = some e := he
    rw [List.getElem?_set] at he
    simp (disch := omega) only [ar_saw, ar_saw_ne]
    by_cases q : k = j
    · rw [if_pos q, if_pos hk] at he
      cases he
      subst q
      rw [upd_s, upd_s, upd_s]
      exact ⟨rfl, rfl, hb⟩
    · rw [if_neg q] at he
      rw [upd_n (fun z => q z.symm), upd_n (fun z => q z.symm), upd_n (fun z => q z.symm)]
      exact h15 j e he
theorem c_removeEntry (h : PC σ a p) {k : Nat} (hk : k < p.es.length) : ∃ σ', kX3_removeEntry σ a (nI k) = some σ' ∧ PC σ' a (mkP p.lf p.ce (p.es.eraseIdx k)) ∧ Dp a σ σ' := by
  have hpg := h.1
  obtain ⟨⟨h1, ⟨h2, h3, h4⟩, ⟨h5, h6, h7⟩, h8, h9, h10⟩, ⟨h11, h12, h13, h14⟩, h15⟩ := h
  have e1 : nI p.es.length - nI k - 1 = nI (p.es.length - k - 1) := by
    rw [pk_sub (by omega), show (1 : Int32) = nI 1 from rfl, pk_sub (by omega)]
  have e2 : nI p.es.length - 1 = nI (p.es.length - 1) := by rw [show (1 : Int32) = nI 1 from rfl, pk_sub (by omega)]
  have n0 : ¬ nI k < 0 := nI_pos (by omega)
  have n1 : nI k < nI p.es.length := nI_lt hk (by omega)
  unfold kX3_removeEntry
  simp (disch := first | assumption | omega | (simp only [kd_sfi, ln_sfi, fr_sfi, ar_sfi, rr_sfi, nx_sfi, us_sfi, kd_saw, ln_saw, fi_saw, fr_saw, rr_saw, nx_saw, us_saw, kd_srw, ln_srw, fi_srw, fr_srw, ar_srw, nx_srw, us_srw, kd_sfr, ln_sfr, fi_sfr, ar_sfr, rr_sfr, nx_sfr, us_sfr, fi_sfi, fr_sfr, and_true, true_and, and_false, false_and, if_true, if_false, ite_true, ite_false, eq_self, Nat.reduceEqDiff, reduceIte, h1, h2, h3, h4, h5, h6, h7, h8, h9, h10] <;> omega) | fail) only [gfi_ok, gfr_ok, pfi_ok, pfr_ok, cpI_ok, cpR_ok, ast_saw, ald_ok, rld_ok, rst_ok, aln_ok, ckd_ok, ckc_ok, bind_s, bd2_s, nI_1, ar_saw, ar_saw_ne, rr_srw, rr_srw_ne, kd_sfi, ln_sfi, fr_sfi, ar_sfi, rr_sfi, nx_sfi, us_sfi, kd_saw, ln_saw, fi_saw, fr_saw, rr_saw, nx_saw, us_saw, kd_srw, ln_srw, fi_srw, fr_srw, ar_srw, nx_srw, us_srw, kd_sfr, ln_sfr, fi_sfr, ar_sfr, rr_sfr, nx_sfr, us_sfr, fi_sfi, fr_sfr, and_true, true_and, and_false, false_and, if_true, if_false, ite_true, ite_false, eq_self, Nat.reduceEqDiff, reduceIte, h1, h2, h3, h4, h5, h6, h7, h8, h9, h10, h13, e1, e2, n0, n1]
  have A : ∀ x, a ≤ x → x ≤ a + 3 → Ap a x := fun x q1 q2 => ⟨q1, q2⟩
  refine ⟨_, rfl, ⟨PG.cg hpg (by simp only [kd_sfi, ln_sfi, fr_sfi, ar_sfi, rr_sfi, nx_sfi, us_sfi, kd_saw, ln_saw, fi_saw, fr_saw, rr_saw, nx_saw, us_saw, kd_srw, ln_srw, fi_srw, fr_srw, ar_srw, nx_srw, us_srw, kd_sfr, ln_sfr, fi_sfr, ar_sfr, rr_sfr, nx_sfr, us_sfr, fi_sfi, fr_sfr, and_true, true_and, and_false, false_and, if_true, if_false, ite_true, ite_false, eq_self, Nat.reduceEqDiff, reduceIte]) (by simp only [kd_sfi, ln_sfi, fr_sfi, ar_sfi, rr_sfi, nx_sfi, us_sfi, kd_saw, ln_saw, fi_saw, fr_saw, rr_saw, nx_saw, us_saw, kd_srw, ln_srw, fi_srw, fr_srw, ar_srw, nx_srw, us_srw, kd_sfr, ln_sfr, fi_sfr, ar_sfr, rr_sfr, nx_sfr, us_sfr, fi_sfi, fr_sfr, and_true, true_and, and_false, false_and, if_true, if_false, ite_true, ite_false, eq_self, Nat.reduceEqDiff, reduceIte]) (by simp only [kd_sfi, ln_sfi, fr_sfi, ar_sfi, rr_sfi, nx_sfi, us_sfi, kd_saw, ln_saw, fi_saw, fr_saw, rr_saw, nx_saw, us_saw, kd_srw, ln_srw, fi_srw, fr_srw, ar_srw, nx_srw, us_srw, kd_sfr, ln_sfr, fi_sfr, ar_sfr, rr_sfr, nx_sfr, us_sfr, fi_sfi, fr_sfr, and_true, true_and, and_false, false_and, if_true, if_false, ite_true, ite_false, eq_self, Nat.reduceEqDiff, reduceIte]), ⟨by simp only [kd_sfi, ln_sfi, fr_sfi, ar_sfi, rr_sfi, nx_sfi, us_sfi, kd_saw, ln_saw, fi_saw, fr_saw, rr_saw, nx_saw, us_saw, kd_srw, ln_srw, fi_srw, fr_srw, ar_srw, nx_srw, us_srw, kd_sfr, ln_sfr, fi_sfr, ar_sfr, rr_sfr, nx_sfr, us_sfr, fi_sfi, fr_sfr, and_true, true_and, and_false, false_and, if_true, if_false, ite_true, ite_false, eq_self, Nat.reduceEqDiff, reduceIte, h11]; rfl, by simp only [kd_sfi, ln_sfi, fr_sfi, ar_sfi, rr_sfi, nx_sfi, us_sfi, kd_saw, ln_saw, fi_saw, fr_saw, rr_saw, nx_saw, us_saw, kd_srw, ln_srw, fi_srw, fr_srw, ar_srw, nx_srw, us_srw, kd_sfr, ln_sfr, fi_sfr, ar_sfr, rr_sfr, nx_sfr, us_sfr, fi_sfi, fr_sfr, and_true, true_and, and_false, false_and, if_true, if_false, ite_true, ite_false, eq_self, Nat.reduceEqDiff, reduceIte, h12]; rfl, ?_, ?_⟩, fun j e he => ?_⟩, ⟨by repeat (with_reducible first | refine Df.xa' ?_ (A _ (by omega) (by omega)) | refine Df.xi' ?_ (A _ (by omega) (by omega)) | refine Df.xr' ?_ (A _ (by omega) (by omega)) | refine Df.xe' ?_ (A _ (by omega) (by omega)) | exact Df.rfl), by simp only [kd_sfi, ln_sfi, fr_sfi, ar_sfi, rr_sfi, nx_sfi, us_sfi, kd_saw, ln_saw, fi_saw, fr_saw, rr_saw, nx_saw, us_saw, kd_srw, ln_srw, fi_srw, fr_srw, ar_srw, nx_srw, us_srw, kd_sfr, ln_sfr, fi_sfr, ar_sfr, rr_sfr, nx_sfr, us_sfr, fi_sfi, fr_sfr, and_true, true_and, and_false, false_and, if_true, if_false, ite_true, ite_false, eq_self, Nat.reduceEqDiff, reduceIte], by simp only [kd_sfi, ln_sfi, fr_sfi, ar_sfi, rr_sfi, nx_sfi, us_sfi, kd_saw, ln_saw, fi_saw, fr_saw, rr_saw, nx_saw, us_saw, kd_srw, ln_srw, fi_srw, fr_srw, ar_srw, nx_srw, us_srw, kd_sfr, ln_sfr, fi_sfr, ar_sfr, rr_sfr, nx_sfr, us_sfr, fi_sfi, fr_sfr, and_true, true_and, and_false, false_and, if_true, if_false, ite_true, ite_false, eq_self, Nat.reduceEqDiff, reduceIte], by simp only [kd_sfi, ln_sfi, fr_sfi, ar_sfi, rr_sfi, nx_sfi, us_sfi, kd_saw, ln_saw, fi_saw, fr_saw, rr_saw, nx_saw, us_saw, kd_srw, ln_srw, fi_srw, fr_srw, ar_srw, nx_srw, us_srw, kd_sfr, ln_sfr, fi_sfr, ar_sfr, rr_sfr, nx_sfr, us_sfr, fi_sfi, fr_sfr, and_true, true_and, and_false, false_and, if_true, if_false, ite_true, ite_false, eq_self, Nat.reduceEqDiff, reduceIte], by simp only [kd_sfi, ln_sfi, fr_sfi, ar_sfi, rr_sfi, nx_sfi, us_sfi, kd_saw, ln_saw, fi_saw, fr_saw, rr_saw, nx_saw, us_saw, kd_srw, ln_srw, fi_srw, fr_srw, ar_srw, nx_srw, us_srw, kd_sfr, ln_sfr, fi_sfr, ar_sfr, rr_sfr, nx_sfr, us_sfr, fi_sfi, fr_sfr, and_true, true_and, and_false, false_and, if_true, if_false, ite_true, ite_false, eq_self, Nat.reduceEqDiff, reduceIte]⟩⟩
  · show _ = nI (p.es.eraseIdx k).length
    rw [List.length_eraseIdx, if_pos hk, fi_sfi, if_pos ⟨rfl, rfl⟩]
  · show (p.es.eraseIdx k).length ≤ 7
    rw [List.length_eraseIdx, if_pos hk]
    omega
  · have he : (p.es.eraseIdx k)[j]? = some e := he
    have hj := get_lt he
    rw [List.length_eraseIdx, if_pos hk] at hj
    rw [List.getElem?_eraseIdx] at he
    rw [ar_sfi]
    simp (disch := omega) only [ar_saw, ar_saw_ne]
    by_cases q : j < k
    · rw [if_pos q] at he
      rw [pk_cpy_out (by omega), pk_cpy_out (by omega), pk_cpy_out (by omega)]
      exact h15 j e he
    · rw [if_neg q] at he
      rw [pk_cpy_in (by omega) (by omega), pk_cpy_in (by omega) (by omega), pk_cpy_in (by omega) (by omega)]
      have : k + 1 + (j - k) = j + 1 := by omega
      rw [this]
      exact h15 _ e he
theorem c_empty {l : Bool} (h : PG σ a) : ∃ σ', kX3_empty σ a (bI (l = true)) = some σ' ∧ PC σ' a (mkP l none []) ∧ Dp a σ σ' := by
  have hpg := h
  obtain ⟨h1, ⟨h2, h3, h4⟩, ⟨h5, h6, h7⟩, h8, h9, h10⟩ := h
  have A : ∀ x, a ≤ x → x ≤ a + 3 → Ap a x := fun x q1 q2 => ⟨q1, q2⟩
  unfold kX3_empty
  have z : pfz σ 13 300 a (bI (l = true)) = some (sfi σ 300 a (bI (l = true))) := if_pos ⟨h1, by unfold bI; split; exact Or.inr rfl; exact Or.inl rfl⟩
  rw [z]
  simp (disch := first | assumption | (simp only [kd_sfi, ln_sfi, fr_sfi, ar_sfi, rr_sfi, nx_sfi, us_sfi, kd_saw, ln_saw, fi_saw, fr_saw, rr_saw, nx_saw, us_saw, kd_srw, ln_srw, fi_srw, fr_srw, ar_srw, nx_srw, us_srw, kd_sfr, ln_sfr, fi_sfr, ar_sfr, rr_sfr, nx_sfr, us_sfr, fi_sfi, fr_sfr, and_true, true_and, and_false, false_and, if_true, if_false, ite_true, ite_false, eq_self, Nat.reduceEqDiff, reduceIte, h1, h2, h3, h4, h5, h6, h7, h8, h9, h10])) only [gfi_ok, gfr_ok, pfi_ok, pfr_ok, cpI_ok, cpR_ok, ast_saw, ald_ok, rld_ok, rst_ok, aln_ok, ckd_ok, ckc_ok, bind_s, bd2_s, nI_1, ar_saw, ar_saw_ne, rr_srw, rr_srw_ne, kd_sfi, ln_sfi, fr_sfi, ar_sfi, rr_sfi, nx_sfi, us_sfi, kd_saw, ln_saw, fi_saw, fr_saw, rr_saw, nx_saw, us_saw, kd_srw, ln_srw, fi_srw, fr_srw, ar_srw, nx_srw, us_srw, kd_sfr, ln_sfr, fi_sfr, ar_sfr, rr_sfr, nx_sfr, us_sfr, fi_sfi, fr_sfr, and_true, true_and, and_false, false_and, if_true, if_false, ite_true, ite_false, eq_self, Nat.reduceEqDiff, reduceIte, h1, h2, h3, h4, h5, h6, h7, h8, h9, h10]
  refine ⟨_, rfl, ⟨PG.cg hpg (by simp only [kd_sfi, ln_sfi, fr_sfi, ar_sfi, rr_sfi, nx_sfi, us_sfi, kd_saw, ln_saw, fi_saw, fr_saw, rr_saw, nx_saw, us_saw, kd_srw, ln_srw, fi_srw, fr_srw, ar_srw, nx_srw, us_srw, kd_sfr, ln_sfr, fi_sfr, ar_sfr, rr_sfr, nx_sfr, us_sfr, fi_sfi, fr_sfr, and_true, true_and, and_false, false_and, if_true, if_false, ite_true, ite_false, eq_self, Nat.reduceEqDiff, reduceIte]) (by simp only [kd_sfi, ln_sfi, fr_sfi, ar_sfi, rr_sfi, nx_sfi, us_sfi, kd_saw, ln_saw, fi_saw, fr_saw, rr_saw, nx_saw, us_saw, kd_srw, ln_srw, fi_srw, fr_srw, ar_srw, nx_srw, us_srw, kd_sfr, ln_sfr, fi_sfr, ar_sfr, rr_sfr, nx_sfr, us_sfr, fi_sfi, fr_sfr, and_true, true_and, and_false, false_and, if_true, if_false, ite_true, ite_false, eq_self, Nat.reduceEqDiff, reduceIte]) (by simp only [kd_sfi, ln_sfi, fr_sfi, ar_sfi, rr_sfi, nx_sfi, us_sfi, kd_saw, ln_saw, fi_saw, fr_saw, rr_saw, nx_saw, us_saw, kd_srw, ln_srw, fi_srw, fr_srw, ar_srw, nx_srw, us_srw, kd_sfr, ln_sfr, fi_sfr, ar_sfr, rr_sfr, nx_sfr, us_sfr, fi_sfi, fr_sfr, and_true, true_and, and_false, false_and, if_true, if_false, ite_true, ite_false, eq_self, Nat.reduceEqDiff, reduceIte]), ⟨?_, ?_, ?_, by show 0 ≤ 7; omega⟩, fun j e he => ?_⟩, ⟨by repeat (with_reducible first | refine Df.xa' ?_ (A _ (by omega) (by omega)) | refine Df.xi' ?_ (A _ (by omega) (by omega)) | refine Df.xr' ?_ (A _ (by omega) (by omega)) | refine Df.xe' ?_ (A _ (by omega) (by omega)) | exact Df.rfl), by simp only [kd_sfi, ln_sfi, fr_sfi, ar_sfi, rr_sfi, nx_sfi, us_sfi, kd_saw, ln_saw, fi_saw, fr_saw, rr_saw, nx_saw, us_saw, kd_srw, ln_srw, fi_srw, fr_srw, ar_srw, nx_srw, us_srw, kd_sfr, ln_sfr, fi_sfr, ar_sfr, rr_sfr, nx_sfr, us_sfr, fi_sfi, fr_sfr, and_true, true_and, and_false, false_and, if_true, if_false, ite_true, ite_false, eq_self, Nat.reduceEqDiff, reduceIte], by simp only [kd_sfi, ln_sfi, fr_sfi, ar_sfi, rr_sfi, nx_sfi, us_sfi, kd_saw, ln_saw, fi_saw, fr_saw, rr_saw, nx_saw, us_saw, kd_srw, ln_srw, fi_srw, fr_srw, ar_srw, nx_srw, us_srw, kd_sfr, ln_sfr, fi_sfr, ar_sfr, rr_sfr, nx_sfr, us_sfr, fi_sfi, fr_sfr, and_true, true_and, and_false, false_and, if_true, if_false, ite_true, ite_false, eq_self, Nat.reduceEqDiff, reduceIte], by simp only [kd_sfi, ln_sfi, fr_sfi, ar_sfi, rr_sfi, nx_sfi, us_sfi, kd_saw, ln_saw, fi_saw, fr_saw, rr_saw, nx_saw, us_saw, kd_srw, ln_srw, fi_srw, fr_srw, ar_srw, nx_srw, us_srw, kd_sfr, ln_sfr, fi_sfr, ar_sfr, rr_sfr, nx_sfr, us_sfr, fi_sfi, fr_sfr, and_true, true_and, and_false, false_and, if_true, if_false, ite_true, ite_false, eq_self, Nat.reduceEqDiff, reduceIte], by simp only [kd_sfi, ln_sfi, fr_sfi, ar_sfi, rr_sfi, nx_sfi, us_sfi, kd_saw, ln_saw, fi_saw, fr_saw, rr_saw, nx_saw, us_saw, kd_srw, ln_srw, fi_srw, fr_srw, ar_srw, nx_srw, us_srw, kd_sfr, ln_sfr, fi_sfr, ar_sfr, rr_sfr, nx_sfr, us_sfr, fi_sfi, fr_sfr, and_true, true_and, and_false, false_and, if_true, if_false, ite_true, ite_false, eq_self, Nat.reduceEqDiff, reduceIte]⟩⟩
  · rw [fi_sfi, if_neg (by omega), fi_sfi, if_neg (by omega), fi_sfi, if_pos ⟨rfl, rfl⟩]
    rfl
  · rw [fi_sfi, if_neg (by omega), fi_sfi, if_pos ⟨rfl, rfl⟩]
    rfl
  · rw [fi_sfi, if_pos ⟨rfl, rfl⟩]
    rfl
  · cases he
end PGs
section PGs
variable {σ : Hp} {a b : Nat} {p : Pg}
theorem c_copyPage (h : PC σ b p) (g : PG σ a) (hd : a + 3 < b ∨ b + 3 < a) : ∃ σ', kX3_copyFrom σ a b = some σ' ∧ PC σ' a p ∧ Dp a σ σ' := by
  have hpg := g
  obtain ⟨g1, ⟨g2, g3, g4⟩, ⟨g5, g6, g7⟩, g8, g9, g10⟩ := g
  obtain ⟨⟨h1, ⟨h2, h3, h4⟩, ⟨h5, h6, h7⟩, h8, h9, h10⟩, ⟨h11, h12, h13, h14⟩, h15⟩ := h
  have A : ∀ x, a ≤ x → x ≤ a + 3 → Ap a x := fun x q1 q2 => ⟨q1, q2⟩
  have e0 : (0 : Int32) = nI 0 := rfl
  have z : pfz σ 13 300 a (bI (p.lf = true)) = some (sfi σ 300 a (bI (p.lf = true))) := if_pos ⟨g1, by unfold bI; split; exact Or.inr rfl; exact Or.inl rfl⟩
  have ne : ¬ b = a := by omega
  have n1 : b + 1 ≠ a + 1 := by omega
  have n2 : b + 2 ≠ a + 1 := by omega
  have n3 : b + 3 ≠ a + 1 := by omega
  have n4 : b + 3 ≠ a + 2 := by omega
  have n5 : b + 2 ≠ a + 2 := by omega
  have n6 : b + 3 ≠ a + 3 := by omega
  unfold kX3_copyFrom
  rw [gfi_ok h1, bind_s, h11, z, bind_s]
  simp (disch := first | assumption | omega | (simp only [kd_sfi, ln_sfi, fr_sfi, ar_sfi, rr_sfi, nx_sfi, us_sfi, kd_saw, ln_saw, fi_saw, fr_saw, rr_saw, nx_saw, us_saw, kd_srw, ln_srw, fi_srw, fr_srw, ar_srw, nx_srw, us_srw, kd_sfr, ln_sfr, fi_sfr, ar_sfr, rr_sfr, nx_sfr, us_sfr, fi_sfi, fr_sfr, and_true, true_and, and_false, false_and, if_true, if_false, ite_true, ite_false, eq_self, Nat.reduceEqDiff, reduceIte, h1, h2, h3, h4, h5, h6, h7, h8, h9, h10, g1, g2, g3, g4, g5, g6, g7, g8, g9, g10] <;> omega) | fail) only [gfi_ok, gfr_ok, pfi_ok, pfr_ok, cpI_ok, cpR_ok, ast_saw, ald_ok, rld_ok, rst_ok, aln_ok, ckd_ok, ckc_ok, bind_s, bd2_s, nI_1, ar_saw, ar_saw_ne, rr_srw, rr_srw_ne, kd_sfi, ln_sfi, fr_sfi, ar_sfi, rr_sfi, nx_sfi, us_sfi, kd_saw, ln_saw, fi_saw, fr_saw, rr_saw, nx_saw, us_saw, kd_srw, ln_srw, fi_srw, fr_srw, ar_srw, nx_srw, us_srw, kd_sfr, ln_sfr, fi_sfr, ar_sfr, rr_sfr, nx_sfr, us_sfr, fi_sfi, fr_sfr, and_true, true_and, and_false, false_and, if_true, if_false, ite_true, ite_false, eq_self, Nat.reduceEqDiff, reduceIte, h1, h2, h3, h4, h5, h6, h7, h8, h9, h10, g1, g2, g3, g4, g5, g6, g7, g8, g9, g10, h12, h13, e0, ne]
  refine ⟨_, rfl, ⟨PG.cg hpg (by simp only [kd_sfi, ln_sfi, fr_sfi, ar_sfi, rr_sfi, nx_sfi, us_sfi, kd_saw, ln_saw, fi_saw, fr_saw, rr_saw, nx_saw, us_saw, kd_srw, ln_srw, fi_srw, fr_srw, ar_srw, nx_srw, us_srw, kd_sfr, ln_sfr, fi_sfr, ar_sfr, rr_sfr, nx_sfr, us_sfr, fi_sfi, fr_sfr, and_true, true_and, and_false, false_and, if_true, if_false, ite_true, ite_false, eq_self, Nat.reduceEqDiff, reduceIte]) (by simp only [kd_sfi, ln_sfi, fr_sfi, ar_sfi, rr_sfi, nx_sfi, us_sfi, kd_saw, ln_saw, fi_saw, fr_saw, rr_saw, nx_saw, us_saw, kd_srw, ln_srw, fi_srw, fr_srw, ar_srw, nx_srw, us_srw, kd_sfr, ln_sfr, fi_sfr, ar_sfr, rr_sfr, nx_sfr, us_sfr, fi_sfi, fr_sfr, and_true, true_and, and_false, false_and, if_true, if_false, ite_true, ite_false, eq_self, Nat.reduceEqDiff, reduceIte]) (by simp only [kd_sfi, ln_sfi, fr_sfi, ar_sfi, rr_sfi, nx_sfi, us_sfi, kd_saw, ln_saw, fi_saw, fr_saw, rr_saw, nx_saw, us_saw, kd_srw, ln_srw, fi_srw, fr_srw, ar_srw, nx_srw, us_srw, kd_sfr, ln_sfr, fi_sfr, ar_sfr, rr_sfr, nx_sfr, us_sfr, fi_sfi, fr_sfr, and_true, true_and, and_false, false_and, if_true, if_false, ite_true, ite_false, eq_self, Nat.reduceEqDiff, reduceIte]), ⟨?_, ?_, ?_, h14⟩, fun j e he => ?_⟩, ⟨by repeat (with_reducible first | refine Df.xa' ?_ (A _ (by omega) (by omega)) | refine Df.xi' ?_ (A _ (by omega) (by omega)) | refine Df.xr' ?_ (A _ (by omega) (by omega)) | refine Df.xe' ?_ (A _ (by omega) (by omega)) | exact Df.rfl), by simp only [kd_sfi, ln_sfi, fr_sfi, ar_sfi, rr_sfi, nx_sfi, us_sfi, kd_saw, ln_saw, fi_saw, fr_saw, rr_saw, nx_saw, us_saw, kd_srw, ln_srw, fi_srw, fr_srw, ar_srw, nx_srw, us_srw, kd_sfr, ln_sfr, fi_sfr, ar_sfr, rr_sfr, nx_sfr, us_sfr, fi_sfi, fr_sfr, and_true, true_and, and_false, false_and, if_true, if_false, ite_true, ite_false, eq_self, Nat.reduceEqDiff, reduceIte], by simp only [kd_sfi, ln_sfi, fr_sfi, ar_sfi, rr_sfi, nx_sfi, us_sfi, kd_saw, ln_saw, fi_saw, fr_saw, rr_saw, nx_saw, us_saw, kd_srw, ln_srw, fi_srw, fr_srw, ar_srw, nx_srw, us_srw, kd_sfr, ln_sfr, fi_sfr, ar_sfr, rr_sfr, nx_sfr, us_sfr, fi_sfi, fr_sfr, and_true, true_and, and_false, false_and, if_true, if_false, ite_true, ite_false, eq_self, Nat.reduceEqDiff, reduceIte], by simp only [kd_sfi, ln_sfi, fr_sfi, ar_sfi, rr_sfi, nx_sfi, us_sfi, kd_saw, ln_saw, fi_saw, fr_saw, rr_saw, nx_saw, us_saw, kd_srw, ln_srw, fi_srw, fr_srw, ar_srw, nx_srw, us_srw, kd_sfr, ln_sfr, fi_sfr, ar_sfr, rr_sfr, nx_sfr, us_sfr, fi_sfi, fr_sfr, and_true, true_and, and_false, false_and, if_true, if_false, ite_true, ite_false, eq_self, Nat.reduceEqDiff, reduceIte], by simp only [kd_sfi, ln_sfi, fr_sfi, ar_sfi, rr_sfi, nx_sfi, us_sfi, kd_saw, ln_saw, fi_saw, fr_saw, rr_saw, nx_saw, us_saw, kd_srw, ln_srw, fi_srw, fr_srw, ar_srw, nx_srw, us_srw, kd_sfr, ln_sfr, fi_sfr, ar_sfr, rr_sfr, nx_sfr, us_sfr, fi_sfi, fr_sfr, and_true, true_and, and_false, false_and, if_true, if_false, ite_true, ite_false, eq_self, Nat.reduceEqDiff, reduceIte]⟩⟩
  · simp only [kd_sfi, ln_sfi, fr_sfi, ar_sfi, rr_sfi, nx_sfi, us_sfi, kd_saw, ln_saw, fi_saw, fr_saw, rr_saw, nx_saw, us_saw, kd_srw, ln_srw, fi_srw, fr_srw, ar_srw, nx_srw, us_srw, kd_sfr, ln_sfr, fi_sfr, ar_sfr, rr_sfr, nx_sfr, us_sfr, fi_sfi, fr_sfr, and_true, true_and, and_false, false_and, if_true, if_false, ite_true, ite_false, eq_self, Nat.reduceEqDiff, reduceIte]
  · simp only [kd_sfi, ln_sfi, fr_sfi, ar_sfi, rr_sfi, nx_sfi, us_sfi, kd_saw, ln_saw, fi_saw, fr_saw, rr_saw, nx_saw, us_saw, kd_srw, ln_srw, fi_srw, fr_srw, ar_srw, nx_srw, us_srw, kd_sfr, ln_sfr, fi_sfr, ar_sfr, rr_sfr, nx_sfr, us_sfr, fi_sfi, fr_sfr, and_true, true_and, and_false, false_and, if_true, if_false, ite_true, ite_false, eq_self, Nat.reduceEqDiff, reduceIte]
  · simp only [kd_sfi, ln_sfi, fr_sfi, ar_sfi, rr_sfi, nx_sfi, us_sfi, kd_saw, ln_saw, fi_saw, fr_saw, rr_saw, nx_saw, us_saw, kd_srw, ln_srw, fi_srw, fr_srw, ar_srw, nx_srw, us_srw, kd_sfr, ln_sfr, fi_sfr, ar_sfr, rr_sfr, nx_sfr, us_sfr, fi_sfi, fr_sfr, and_true, true_and, and_false, false_and, if_true, if_false, ite_true, ite_false, eq_self, Nat.reduceEqDiff, reduceIte]
  · have hj := get_lt he
    simp (disch := first | assumption | omega) only [ar_saw, ar_saw_ne, ar_sfi, pk_cpy_in, Nat.zero_add, Nat.sub_zero]
    exact h15 j e he
end PGs
-- a list of the class
def Lv (σ : Hp) (l E : Nat) (L : List Nat) : Prop := (σ.kd l = 22 ∧ σ.fr 1201 l = E ∧ σ.fi 1202 l = nI L.length ∧ L.length ≤ 1000) ∧ ((E = 1 ∧ σ.kd 1 = 5 ∧ σ.ln 1 = 0 ∧ L = []) ∨ (σ.kd E = 3 ∧ L.length ≤ σ.ln E ∧ 10 ≤ σ.ln E ∧ σ.ln E ≤ 1600 ∧ E ≠ 1)) ∧ (∀ k a, L[k]? = some a → σ.rr E k = a ∧ (σ.kd a = 13 ∨ σ.kd a = 17))
section LVs
variable {σ : Hp} {l E : Nat} {L : List Nat}
theorem Lv.sz (h : Lv σ l E L) : gfi σ 22 1202 l = some (nI L.length) := by rw [gfi_ok h.1.1, h.1.2.2.1]
theorem Lv.el (h : Lv σ l E L) : gfr σ 22 1201 l = some E := by rw [gfr_ok h.1.1, h.1.2.1]
theorem Lv.c {Y : Type} {o : Option Y} (h : Lv σ l E L) : ckd σ l 22 o = o := ckd_ok h.1.1
theorem Lv.size (h : Lv σ l E L) : kJx4a65c_size_8abf5 σ l = some (nI L.length) := by
  unfold kJx4a65c_size_8abf5
  rw [h.sz, bind_s]
theorem Lv.kE (h : Lv σ l E L) {k : Nat} (hk : k < L.length) : σ.kd E = 3 ∧ L.length ≤ σ.ln E := by
  rcases h.2.1 with q | q
  · rw [q.2.2.2] at hk
    exact absurd hk (Nat.not_lt_zero _)
  · exact ⟨q.1, q.2.1⟩
theorem Lv.kE' (h : Lv σ l E L) : σ.kd E = 1 ∨ σ.kd E = 3 ∨ σ.kd E = 5 := by
  rcases h.2.1 with q | q
  · rw [q.1]; exact Or.inr (Or.inr q.2.1)
  · exact Or.inr (Or.inl q.1)
theorem Lv.at (h : Lv σ l E L) {i a : Nat} (hi : L[i]? = some a) : kJx4a65c_get_915e3 σ l (nI i) = some a := by
  have hl := get_lt hi
  have h1000 := h.1.2.2.2
  obtain ⟨k1, k2⟩ := h.kE hl
  unfold kJx4a65c_get_915e3 kJ15_checkIndex_7cf53 kJ3_checkIndex_8e157 kJx4a65c_elementData_915e3
  rw [h.sz, bind_s, if_neg (nI_pos (by omega)), if_pos (nI_lt hl (by omega)), bind_s, bind_s, h.c, h.el, bind_s, rld_ok k1 (by omega) (by omega), bind_s, bind_s, (h.2.2 i a hi).1]
theorem Lv.df {A : Nat → Prop} {σ' : Hp} (h : Lv σ l E L) (hw : Wn σ) (d : Df A σ σ') (hA : ¬ A l) (hE : E ≠ 1 → ¬ A E) : Lv σ' l E L := by
  obtain ⟨⟨h1, h2, h3, h4⟩, h5, h6⟩ := h
  have q := d.2.2 l (hw.lt h1) hA
  refine ⟨⟨((d.2.1 l (hw.lt h1)).1).trans h1, (q.2.1 _).trans h2, (q.1 _).trans h3, h4⟩, ?_, fun k a hk => ?_⟩
  · rcases h5 with z | z
    · have := d.2.1 1 (hw.lt z.2.1)
      exact Or.inl ⟨z.1, this.1.trans z.2.1, this.2.trans z.2.2.1, z.2.2.2⟩
    · have := d.2.1 E (hw.lt z.1)
      exact Or.inr (by rw [this.1, this.2]; exact z)
  · rcases h5 with z | z
    · rw [z.2.2.2] at hk
      cases hk
    · obtain ⟨m1, m2⟩ := h6 k a hk
      have ka : σ'.kd a = σ.kd a := (d.2.1 a (hw.2 a (by omega))).1
      rw [ka, (d.2.2 E (hw.lt z.1) (hE z.2.2.2.2)).2.2.2]
      exact ⟨m1, m2⟩

theorem Lv.grow (h : Lv σ l E L) (hw : Wn σ) (hf : L.length = σ.ln E) (hl : L.length < 1000) (hn : σ.nx + 1 ≤ NXc) (hu : σ.us + 1600 ≤ UXc) : ∃ σ' E', kJx4a65c_grow_d5877 σ l = some (E', σ') ∧ Lv σ' l E' L ∧ L.length < σ'.ln E' ∧ Wn σ' ∧ Df (fun x => x = l) σ σ' ∧ E' = σ.nx ∧ σ'.nx + (1600 - σ'.ln E') ≤ σ.nx + (1600 - σ.ln E) ∧ σ'.us + 4 * (1600 - σ'.ln E') ≤ σ.us + 4 * (1600 - σ.ln E) := by
  have hkE := h.kE'
  obtain ⟨⟨h1, h2, h3, h4⟩, h5, h6⟩ := id h
  have hln := hw.lt h1
  have ne : l ≠ σ.nx := by omega
  have e0 : (0 : Int32) = nI 0 := rfl
  have e1 : (1 : Int32) = nI 1 := rfl
  have e10 : (10 : Int32) = nI 10 := rfl
  unfold kJx4a65c_grow_d5877 kJx4a65c_grow_92f84
  rw [h.sz, bind_s, h.c, h.el, bind_s, aln_ok hkE, bind_s, nI_1]
  rcases h5 with z | z
  · obtain ⟨rfl, z1, z2, z3⟩ := z
    subst z3
    rw [z2, if_neg (by decide), bind_s, if_pos rfl, if_neg (by decide), e10, nwR_ok (by decide) hn (by omega), bd2_s]
    have kl : (hR σ 10).kd l = 22 := by
      show upr σ.kd σ.nx 3 l = 22
      rw [upr_n ne]; exact h1
    rw [pfr_ok kl, bind_s, bd2_s]
    have kn : (sfr (hR σ 10) 1201 l σ.nx).kd σ.nx = 3 := upr_s
    have lnn : (sfr (hR σ 10) 1201 l σ.nx).ln σ.nx = 10 := upr_s
    refine ⟨_, _, rfl, ⟨⟨kl, by rw [fr_sfr, if_pos ⟨rfl, rfl⟩], h3, by show 0 ≤ 1000; omega⟩, Or.inr ⟨kn, by rw [lnn]; exact Nat.zero_le _, by rw [lnn]; omega, by rw [lnn]; omega, by have := hw.1; omega⟩, fun k a hk => by cases hk⟩, by rw [lnn]; exact Nat.zero_lt_succ _, hw.nR, (Df.nR).tr (Df.xr rfl), rfl, ?_, ?_⟩
    · rw [lnn]
      show σ.nx + 1 + (1600 - 10) ≤ _
      omega
    · rw [lnn]
      show σ.us + 10 + 4 * (1600 - 10) ≤ _
      omega
  · obtain ⟨z1, z2, z3, z4, z5⟩ := z
    rw [← hf, e0, if_pos (nI_lt (by omega) (by omega))]
    unfold kJx4a65c_grow_92f84_20 kJ8_newLength_cabcc kJ7_copyOf_1904c kJ7_copyOf_6403c
    have sh : nI L.length >>> ((1 : Int32) &&& 31) = nI (L.length / 2) := pk_shrN (by omega) _ 1 (by decide)
    have mx : (if nI 1 < nI (L.length / 2) then nI (L.length / 2) else nI 1) = nI (L.length / 2) := if_pos (nI_lt (by omega) (by omega))
    have sb : nI (L.length + 1) - nI L.length = nI 1 := by
      rw [pk_sub (by omega)]
      congr 1
      omega
    rw [sb, sh, mx, nI_add, if_neg (nI_nle (by omega) (by omega)), if_neg (show ¬ (2147483639 : Int32) < nI _ from nI_nlt (a := 2147483639) (by omega) (by decide)), bind_s, h.el, bind_s]
    have kr : ∀ {Y : Type} {o : Option Y}, ckr σ E o = o := if_pos z1
    rw [kr, nwR_ok (by omega) hn (by omega), bd2_s]
    have neE : E ≠ σ.nx := by have := hw.lt z1; omega
    have kE2 : (hR σ (L.length + L.length / 2)).kd E = 3 := by
      show upr σ.kd σ.nx 3 E = 3
      rw [upr_n neE]; exact z1
    have lE2 : (hR σ (L.length + L.length / 2)).ln E = L.length := by
      show upr σ.ln σ.nx _ E = _
      rw [upr_n neE]; exact hf.symm
    have kn2 : (hR σ (L.length + L.length / 2)).kd σ.nx = 3 := upr_s
    have ln2 : (hR σ (L.length + L.length / 2)).ln σ.nx = L.length + L.length / 2 := upr_s
    rw [aln_ok (Or.inr (Or.inl kE2)), bind_s, lE2, if_neg (nI_nlt (by omega) (by omega)), e0, cpR_ok kE2 kn2 (by rw [lE2]; omega) (by rw [ln2]; omega) (by omega) (by omega) (by omega), bind_s, bd2_s, bd2_s]
    generalize hσ1 : srw (hR σ (L.length + L.length / 2)) σ.nx _ = σ1
    have k1 : σ1.kd l = 22 := by
      rw [← hσ1]
      show upr σ.kd σ.nx 3 l = 22
      rw [upr_n ne]; exact h1
    rw [pfr_ok k1, bind_s, bd2_s]
    have kn : σ1.kd σ.nx = 3 := by rw [← hσ1]; exact kn2
    have lnn : σ1.ln σ.nx = L.length + L.length / 2 := by rw [← hσ1]; exact ln2
    have nn : σ1.nx = σ.nx + 1 := by rw [← hσ1]; rfl
    have un : σ1.us = σ.us + (L.length + L.length / 2) := by rw [← hσ1]; rfl
    have fi1 : σ1.fi 1202 l = nI L.length := by rw [← hσ1]; exact h3
    have wn1 : Wn σ1 := by rw [← hσ1]; exact hw.nR
    have df1 : Df (fun x => x = l) σ σ1 := by
      rw [← hσ1]
      exact (Df.nR (A := fun x => x = l)).trans (Df.xe (A := fun x => x = σ.nx) rfl) (fun a ha q => by omega)
    refine ⟨sfr σ1 1201 l σ.nx, σ.nx, rfl, ⟨⟨k1, by rw [fr_sfr, if_pos ⟨rfl, rfl⟩], fi1, h4⟩, Or.inr ⟨kn, by rw [ln_sfr, lnn]; omega, by rw [ln_sfr, lnn]; omega, by rw [ln_sfr, lnn]; omega, by have := hw.1; omega⟩, fun k a hk => ?_⟩, by rw [ln_sfr, lnn]; omega, wn1, df1.tr (Df.xr rfl), rfl, ?_, ?_⟩
    · have hk2 := get_lt hk
      obtain ⟨m1, m2⟩ := h6 k a hk
      have ka : σ1.kd a = σ.kd a := (df1.2.1 a (hw.2 a (by omega))).1
      rw [rr_sfr, kd_sfr, ka]
      refine ⟨?_, m2⟩
      rw [← hσ1, rr_srw, pk_cpy_in (by omega) (by omega)]
      show upr σ.rr σ.nx _ E _ = a
      rw [upr_n neE, Nat.zero_add, Nat.sub_zero]
      exact m1
    · rw [nx_sfr, nn, ln_sfr, lnn]
      omega
    · rw [us_sfr, un, ln_sfr, lnn]
      omega
theorem Lv.add (h : Lv σ l E L) (hw : Wn σ) {a : Nat} (ha : σ.kd a = 13 ∨ σ.kd a = 17) (hl : L.length < 1000) (hn : σ.nx + 1 ≤ NXc) (hu : σ.us + 1600 ≤ UXc) : ∃ σ' E', kJx4a65c_add_9ea2d σ l a = some (1, σ') ∧ Lv σ' l E' (L ++ [a]) ∧ Wn σ' ∧ Df (fun x => x = l ∨ x = E) σ σ' ∧ (E' = E ∨ E' = σ.nx) ∧ σ'.nx + (1600 - σ'.ln E') ≤ σ.nx + (1600 - σ.ln E) ∧ σ'.us + 4 * (1600 - σ'.ln E') ≤ σ.us + 4 * (1600 - σ.ln E) := by
  obtain ⟨⟨h1, h2, h3, h4⟩, h5, h6⟩ := id h
  unfold kJx4a65c_add_9ea2d
  rw [gfi_ok h1, bind_s, pfi_ok h1, bind_s]
  generalize hσ0 : sfi σ 1200 l _ = σ0
  have h0 : Lv σ0 l E L := by
    rw [← hσ0]
    exact ⟨⟨h1, h2, by rw [fi_sfi, if_neg (by omega)]; exact h3, h4⟩, h5, h6⟩
  have w0 : Wn σ0 := by rw [← hσ0]; exact hw
  have n0 : σ0.nx = σ.nx := by rw [← hσ0]; rfl
  have u0 : σ0.us = σ.us := by rw [← hσ0]; rfl
  have k0 : σ0.kd = σ.kd := by rw [← hσ0]; rfl
  have l0 : σ0.ln = σ.ln := by rw [← hσ0]; rfl
  have d0 : Df (fun x => x = l ∨ x = E) σ σ0 := by rw [← hσ0]; exact Df.xi (Or.inl rfl)
  rw [h0.el, bind_s, h0.sz, bind_s, h0.c]
  have fin : ∀ (σ1 : Hp) (E1 : Nat), Lv σ1 l E1 L → L.length < σ1.ln E1 → Wn σ1 → Df (fun x => x = l ∨ x = E) σ σ1 → (E1 = E ∨ E1 = σ.nx) → σ1.nx + (1600 - σ1.ln E1) ≤ σ.nx + (1600 - σ.ln E) → σ1.us + 4 * (1600 - σ1.ln E1) ≤ σ.us + 4 * (1600 - σ.ln E) → ∃ σ' E', ((kJx4a65c_add_72be8_11 l a E1 (nI L.length) σ1).bind (fun σ5 => (zb 1).bind (fun w => some (w, σ5)))) = some (1, σ') ∧ Lv σ' l E' (L ++ [a]) ∧ Wn σ' ∧ Df (fun x => x = l ∨ x = E) σ σ' ∧ (E' = E ∨ E' = σ.nx) ∧ σ'.nx + (1600 - σ'.ln E') ≤ σ.nx + (1600 - σ.ln E) ∧ σ'.us + 4 * (1600 - σ'.ln E') ≤ σ.us + 4 * (1600 - σ.ln E) := by
    intro σ1 E1 v hlt w1 d1 hE p1 p2
    obtain ⟨⟨f1, f2, f3, f4⟩, f5, f6⟩ := id v
    have kE1 : σ1.kd E1 = 3 ∧ E1 ≠ 1 ∧ 10 ≤ σ1.ln E1 ∧ σ1.ln E1 ≤ 1600 := by
      rcases f5 with q | q
      · rw [q.1, q.2.2.1] at hlt
        exact absurd hlt (Nat.not_lt_zero _)
      · exact ⟨q.1, q.2.2.2.2, q.2.2.1, q.2.2.2.1⟩
    have ka : σ1.kd a = σ.kd a := (d1.2.1 a (hw.2 a (by omega))).1
    unfold kJx4a65c_add_72be8_11
    rw [rst_ok kE1.1 hlt (by omega) (by rw [ka]; exact Or.inr ha), bind_s, pfi_ok (show (srw σ1 E1 _).kd l = 22 from f1), bind_s, bind_s, zb_1, bind_s, nI_1]
    refine ⟨_, E1, rfl, ⟨⟨f1, f2, by rw [fi_sfi, if_pos ⟨rfl, rfl⟩, List.length_append]; rfl, by rw [List.length_append]; show L.length + 1 ≤ 1000; omega⟩, Or.inr ⟨kE1.1, by rw [List.length_append]; show L.length + 1 ≤ σ1.ln E1; omega, kE1.2.2.1, kE1.2.2.2, kE1.2.1⟩, fun k b hk => ?_⟩, w1, d1.trans ((Df.xe (A := fun x => x = l ∨ x = E1) (Or.inr rfl)).tr (Df.xi (Or.inl rfl))) (fun x hx q => ?_), hE, p1, p2⟩
    · rw [rr_sfi, rr_srw]
      show (if k = L.length then a else σ1.rr E1 k) = b ∧ (σ1.kd b = 13 ∨ σ1.kd b = 17)
      by_cases q : k < L.length
      · rw [List.getElem?_append_left q] at hk
        rw [if_neg (by omega)]
        exact f6 k b hk
      · have := get_lt hk
        rw [List.length_append] at this
        have e : k = L.length := by simp at this; omega
        subst e
        rw [List.getElem?_append_right (Nat.le_refl _), Nat.sub_self] at hk
        cases hk
        rw [if_pos rfl, ka]
        exact ⟨rfl, ha⟩
    · rcases q with q | q
      · exact Or.inl q
      · rcases hE with z | z
        · exact Or.inr (q.trans z)
        · omega
  unfold kJx4a65c_add_72be8
  rw [aln_ok h0.kE', bind_s]
  by_cases q : L.length = σ0.ln E
  · rw [if_pos (by rw [← q]), h0.c]
    obtain ⟨σ1, E1, g1, g2, g3, g4, g5, g6, g7, g8⟩ := h0.grow w0 q hl (by rw [n0]; exact hn) (by rw [u0]; exact hu)
    rw [g1, bd2_s]
    rw [n0, l0] at g7
    rw [u0, l0] at g8
    exact fin σ1 E1 g2 g3 g4 (d0.trans g5 (fun x _ q => Or.inl q)) (Or.inr (g6.trans n0)) g7 g8
  · have hle : L.length < σ0.ln E := by
      rcases h0.2.1 with z | z
      · rw [z.1, z.2.2.1, z.2.2.2] at q
        exact absurd rfl q
      · omega
    have hle2 : σ0.ln E ≤ 1600 := by
      rcases h0.2.1 with z | z
      · rw [z.1, z.2.2.1]; omega
      · exact z.2.2.2.1
    rw [if_neg (fun z => q ((nI_eq (by omega) (by omega)).mp z))]
    exact fin σ0 E h0 hle w0 d0 (Or.inl rfl) (by rw [n0, l0]; exact Nat.le_refl _) (by rw [u0, l0]; exact Nat.le_refl _)
end LVs
