section PERF
variable {σ σ' σ1 σ2 : Hp} {S S' S1 : MS} {own : Nat → Nat} {E : Nat} {L : List Nat} {V V1 : Vt} {π : Nat → Nat} {g : Gh} {n : Nat}
/-- n commands as both sides read them -/
def Cds (σ : Hp) (S : MS) (n : Nat) : Prop := n ≤ 75 ∧ σ.fi 5 53 = nI n ∧ S.2 50 = nI n ∧ ∀ i, i < n → S.1 28 (3 * i) = σ.ar 55 i ∧ CmdOK (σ.ar 55 i) (σ.ar 56 i) (σ.ar 57 i) (S.1 28 (3 * i + 1)) (S.1 28 (3 * i + 2))
theorem Cds.kc (h : Cds σ S n) (k : Kc σ S σ' S') : Cds σ' S' n := by
  obtain ⟨a, b, c, d⟩ := h
  obtain ⟨⟨k1, k2, k3, k4⟩, k5, k6⟩ := k
  exact ⟨a, (k1 5).trans b, k6.trans c, fun i hi => by rw [k2, k3, k4, k5]; exact d i hi⟩
theorem j_acts : ∀ (m F F' i : Nat) (σ : Hp) (S : MS), m < F → m < F' → i + m = n → (∃ E L V π g own, Iv σ S E L V π g own) → Cds σ S n → ∃ σ' S', kX11_perform_49 F 2 (nI i) σ = some (nI n, σ') ∧ r_perform_27 F' (nI i) S = some (nI n, S') ∧ ∃ E L V π g own, Iv σ' S' E L V π g own
  | m, 0, _, _, _, _, h, _, _, _, _ => absurd h (Nat.not_lt_zero m)
  | m, _ + 1, 0, _, _, _, _, h, _, _, _ => absurd h (Nat.not_lt_zero m)
  | 0, F + 1, F' + 1, i, σ, S, _, _, hi, ⟨E, L, V, π, g, own, h⟩, cd => by
    have cm := h.2.2.1.2.2.2.1
    have c75 := cd.1
    unfold kX11_perform_49 r_perform_27
    rw [h.lk.f8, bind_s, gfi_ok cm.1.1, bind_s, cd.2.1, cd.2.2.1, if_pos (nI_le (by omega) (by omega)), if_pos (nI_le (by omega) (by omega)), bind_s, gfi_ok cm.1.1, bind_s, cd.2.1]
    exact ⟨σ, S, Eq.refl _, Eq.refl _, E, L, V, π, g, own, h⟩
  | m + 1, F + 1, F' + 1, i, σ, S, hF, hF', hi, ⟨E, L, V, π, g, own, h⟩, cd => by
    have cm := h.2.2.1.2.2.2.1
    have c75 := cd.1
    have one : ∀ (σ1 : Hp) (S1 : MS), Go1 σ S σ1 S1 → ∃ σ' S', kX11_perform_73 (kX11_perform_49 F) 2 (nI i) σ1 = some (nI n, σ') ∧ r_perform_45 (r_perform_27 F') (nI i) S1 = some (nI n, S') ∧ ∃ E L V π g own, Iv σ' S' E L V π g own := fun σ1 S1 gg => by
      obtain ⟨⟨E1, L1, V1, π1, g1, own1, i1⟩, kc⟩ := gg
      have cd1 := cd.kc kc
      have cm1 := i1.2.2.1.2.2.2.1
      obtain ⟨c0, ok⟩ := cd1.2.2.2 i (by omega)
      obtain ⟨σ2, S2, a1, a2, a3, a4⟩ := j_act i1 (show i < 75 by omega) c0 ok
      obtain ⟨σ3, S3, b1, b2, b3⟩ := j_acts m F F' (i + 1) σ2 S2 (by omega) (by omega) (by omega) a3 (cd1.kc a4)
      refine ⟨σ3, S3, ?_, ?_, b3⟩
      · unfold kX11_perform_73
        simp only [i1.lk.f8, bind_s, gfr_ok cm1.1.1, cm1.2.2.1.2.1, cm1.2.2.1.2.2.1, cm1.2.2.1.2.2.2]
        rw [ald_ok cm1.1.2.2.1 (by rw [cm1.2.1.2.1]; omega) (by omega), bind_s, ald_ok cm1.1.2.2.2.1 (by rw [cm1.2.1.2.2.1]; omega) (by omega), bind_s, ald_ok cm1.1.2.2.2.2 (by rw [cm1.2.1.2.2.2]; omega) (by omega), bind_s, ckd_ok i1.lk.1, a1, bind_s, nI_1, b1]
      · unfold r_perform_45
        rw [show (3 : Int32) = nI 3 from Eq.refl _, pk_mul, a2, bind_s, nI_1, b2]
    unfold kX11_perform_49 r_perform_27
    rw [h.lk.f8, bind_s, gfi_ok cm.1.1, bind_s, cd.2.1, cd.2.2.1, if_neg (nI_ge (by omega) (by omega)), if_neg (nI_ge (by omega) (by omega))]
    by_cases z : i = 0
    · rw [if_pos (by rw [z]; decide), if_pos (by rw [z]; decide)]
      exact one σ S h.g1
    · have : ¬ nI i ≤ 0 := by rw [show (0 : Int32) = nI 0 from Eq.refl _, nI_leI (by omega) (by omega)]; omega
      obtain ⟨σ1, S1, a, b, c⟩ := j_say h.rq 59
      rw [if_neg this, if_neg this, h.lk.f9, bind_s, ckd_ok h.rq.1.1, a, bind_s, b, bind_s]
      exact one σ1 S1 (h.g1.rep c)
/-- what reading leaves: only cells 53, 55 to 57, row 28 and the reader's own numbers change -/
def Rdg (σ : Hp) (S : MS) (v : Int32) (σ' : Hp) (S' : MS) : Prop := (Dn (fun x => x = 53 ∨ x = 55 ∨ x = 56 ∨ x = 57) σ σ' ∧ σ'.fi 1 53 = σ.fi 1 53 ∧ (∀ j, j ≠ 28 → S'.1 j = S.1 j) ∧ (∀ k, k < 45 ∨ 50 < k → S'.2 k = S.2 k)) ∧ σ'.fi 6 53 = S'.2 45 ∧ ((v = 0 ∧ σ'.fi 6 53 ≠ -1) ∨ (v = 1 ∧ σ'.fi 6 53 = -1 ∧ ∃ n, Cds σ' S' n))
/-- perform, if both read the same -/
theorem perf_of (hr : ∀ (σ : Hp) (S : MS), CM σ S → ∃ v σ' S', kX0_read σ 53 = some σ' ∧ r_readAll S = some (v, S') ∧ Rdg σ S v σ' S') : LS_perform In := fun n σ S _ ⟨E, L, V, π, g, own, h⟩ => by
  obtain ⟨c1, c2, c3, c4, c5⟩ := id h.2.2.1
  obtain ⟨⟨q1, q2, q3, q4⟩, m, q5, q6, q7, q8⟩ := id c5
  -- the class forgets its replies first
  have dn0 : Dn Ac σ (sfi σ 501 58 0) := Dn.xi ⟨by omega, by omega⟩
  have cm0 : CM (sfi σ 501 58 0) S := by
    obtain ⟨a, b, c, ⟨n, d1, d2, d3, d4⟩, e, f⟩ := c4
    exact ⟨a, b, c, ⟨n, d1, by rw [fi_sfi, if_neg (by omega)]; exact d2, d3, d4⟩, by rw [fi_sfi, if_neg (by omega)]; exact e, f⟩
  obtain ⟨v, σ1, S1, r1, r2, ⟨d1, d2, d3, d4⟩, d5, d6⟩ := hr _ S cm0
  have dn1 : Dn Ac σ σ1 := dn0.tr (d1.mono (fun x hx => by unfold Ac; omega))
  have k53 : σ1.kd 53 = 10 := by rw [d1.1.1]; exact cm0.1.1
  have lk0 : Lk (sfi σ 501 58 0) := h.lk.dn dn0
  have lk1 : Lk σ1 := h.lk.dn dn1
  have dn2 : Dn Ac σ (sfi σ1 1 53 0) := dn1.xi' ⟨by omega, by omega⟩
  have cm2 : CM (sfi σ1 1 53 0) (pf (pf S1 44 0) 52 0) := by
    obtain ⟨a, b, c, -, e, f⟩ := cm0
    obtain ⟨s1, s2, s3, -⟩ := d1.1
    refine ⟨by rw [kd_sfi, s1]; exact a, by rw [ln_sfi, s2]; exact b, by rw [fr_sfi, s3]; exact c, ⟨0, by omega, by rw [fi_sfi, if_pos ⟨Eq.refl _, Eq.refl _⟩]; exact Eq.refl _, ?_, fun i hi => absurd hi (Nat.not_lt_zero i)⟩, ?_, fun i hi => ?_⟩
    · rw [pf_n (by omega), pf_s]; exact Eq.refl _
    · rw [fi_sfi, if_neg (by omega), pf_n (by omega), pf_n (by omega)]; exact d5
    · rw [pf_1, pf_1, d3 27 (by omega)]; exact f i hi
  have rq2 : RQ (sfi σ1 1 53 0) (pf (pf S1 44 0) 52 0) := by
    obtain ⟨s1, s2, s3, -⟩ := dn1.1
    refine ⟨⟨by rw [kd_sfi, s1]; exact q1, by rw [kd_sfi, s1]; exact q2, by rw [ln_sfi, s2]; exact q3, by rw [fr_sfi, s3]; exact q4⟩, 0, by omega, ?_, pf_s, fun i hi => absurd hi (Nat.not_lt_zero i)⟩
    rw [fi_sfi, if_neg (by omega), (d1.2 58 (by omega)).1, fi_sfi, if_pos ⟨Eq.refl _, Eq.refl _⟩]
    exact Eq.refl _
  have i2 : Iv (sfi σ1 1 53 0) (pf (pf S1 44 0) 52 0) E L V π g own := h.cm dn2 cm2 rq2 ⟨fun j hj => by rw [pf_1, pf_1]; exact d3 j (by omega), fun k hk => by rw [pf_n (by omega), pf_n (by omega)]; exact d4 k (by omega)⟩
  have cl : ∀ (r : Int32) (σ9 : Hp), (if (sfi σ1 1 53 0).fi 6 53 = -1 then (gfr (sfi σ1 1 53 0) 21 1107 2).bind (fun v25 => (gfr (sfi σ1 1 53 0) 21 1100 2).bind (fun v26 => ckd (sfi σ1 1 53 0) v25 14 ((kX4_keep (sfi σ1 1 53 0) v25 v26).bind (fun σ27 => kX11_perform_49 FU 2 0 σ27)))) else some ((-1 : Int32), sfi σ1 1 53 0)) = some (r, σ9) → kX11_perform σ 2 = some (r, σ9) := fun r σ9 e => by
    unfold kX11_perform
    rw [h.lk.f9, bind_s, pfi_ok q1, bind_s, lk0.f8, bind_s, ckd_ok cm0.1.1, r1, bind_s, lk1.f8, bind_s, pfi_ok k53, bind_s, i2.lk.f8, bind_s, gfi_ok cm2.1.1, bind_s, e]
  have f6 : (sfi σ1 1 53 0).fi 6 53 = σ1.fi 6 53 := by rw [fi_sfi, if_neg (by omega)]
  rcases d6 with ⟨rfl, z⟩ | ⟨rfl, z, k, cd⟩
  · refine ⟨-1, _, _, cl _ _ (by rw [f6, if_neg z]), ?_, i2.in⟩
    unfold r_perform
    rw [r2, bd2_s, if_pos (Eq.refl _)]
  · obtain ⟨σ3, S3, own3, k1, k2, i3, k4, k5, k6⟩ := i2.keep
    have ow := i2.2.2.2.1.1
    have n60 := i2.1.2.2.2.1
    unfold Kf at k6
    have fx : ∀ x, 53 ≤ x → x ≤ 57 → ¬ (own x = 1 ∨ own x = 39 ∨ own x = 40 ∨ own x = 41 ∨ own x = 42 ∨ 60 ≤ own x) := fun x y1 y2 y => by
      rw [ow.f (by omega) (by omega) (by omega)] at y
      omega
    have kq := fun x y1 y2 => k6.2.2 x (by omega) (fx x y1 y2)
    have kc : Kc (sfi σ1 1 53 0) (pf (pf S1 44 0) 52 0) σ3 S3 := ⟨⟨(kq 53 (by omega) (by omega)).1, (kq 55 (by omega) (by omega)).2.2.1, (kq 56 (by omega) (by omega)).2.2.1, (kq 57 (by omega) (by omega)).2.2.1⟩, k4 28 (by omega), by rw [k5]⟩
    have cd2 : Cds (sfi σ1 1 53 0) (pf (pf S1 44 0) 52 0) k := by
      obtain ⟨y1, y2, y3, y4⟩ := cd
      refine ⟨y1, by rw [fi_sfi, if_neg (by omega)]; exact y2, by rw [pf_n (by omega), pf_n (by omega)]; exact y3, fun i hi => ?_⟩
      rw [ar_sfi, pf_1, pf_1]
      exact y4 i hi
    have c75 := cd2.1
    obtain ⟨σ4, S4, e1, e2, E4, L4, V4, π4, g4, own4, i4⟩ := j_acts (n := k) k FU FU 0 σ3 S3 (FU_gt (by omega)) (FU_gt (by omega)) (by omega) ⟨E, L, V, π, g, own3, i3⟩ (cd2.kc kc)
    have e1 : kX11_perform_49 FU 2 0 σ3 = some (nI k, σ4) := e1
    have e2 : r_perform_27 FU 0 S3 = some (nI k, S4) := e2
    refine ⟨nI k, σ4, S4, cl _ _ (by rw [f6, if_pos z, i2.lk.f7, bind_s, i2.lk.f0, bind_s, ckd_ok i2.k38, k1, bind_s, e1]), ?_, i4.in⟩
    unfold r_perform
    rw [r2, bd2_s, if_neg (show ¬ (1 : Int32) = 0 by decide), k2, bind_s, e2]
end PERF
