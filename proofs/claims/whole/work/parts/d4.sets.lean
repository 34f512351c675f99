section SETS
variable {σ σ1 : Hp} {S S' : MS} {own : Nat → Nat} {E : Nat} {L : List Nat} {V V1 : Vt} {π : Nat → Nat} {g : Gh}
/-- the state's words, told ones or measure have changed: distances and tree anew -/
theorem j_head (J : JC σ S E L V π g) (d : Dn Ah σ σ1) (st : St σ1 3 E L V1) (hv1 : Vw V1) {R' : Nat → Int32} (rw1 : RW R' 2 V1) (eR : ∀ x, x < 2 ∨ 23614 ≤ x → R' x = S.1 0 x) : ∃ σ2 σ3 S3, Lk σ1 ∧ σ1.kd 19 = 11 ∧ kX1_follow σ1 19 3 = some σ2 ∧ Lk σ2 ∧ σ2.kd 23 = 19 ∧ kX9_buildAnew σ2 23 = some σ3 ∧ r_buildNow (r0 S R') = some S3 ∧ Jr σ S E L V1 σ3 S3 := by
  obtain ⟨co, rt, hv, wf, hg⟩ := J
  obtain ⟨co1, kq1⟩ := co.hd d st
  obtain ⟨σ2, f1, co2, kq2⟩ := co1.follow hv hv1
  obtain ⟨σ3, S3, b1, b2, b3⟩ := jc_build (S := r0 S R') co2 hv1 (by rw [r0_0]; exact rw1) (kq1.tr kq2) (S0 := S) ⟨Rn.r0 (Or.inl rfl), fun x hx => by rw [r0_0]; exact eR x hx⟩
  exact ⟨σ2, σ3, S3, co1.2.2.2.2.2, co1.2.2.2.1.1.1.1, f1, co2.2.2.2.2.2, co2.2.1.1.1, b1, b2, b3⟩
theorem rng {x : Int32} {a b : Nat} (hb : b < 2 ^ 31) (ha : a < 2 ^ 31) (h : nI a ≤ x ∧ x ≤ nI b) : ∃ n, a ≤ n ∧ n ≤ b ∧ x = nI n := by
  rcases i_or x with q | ⟨t, t1, rfl⟩
  · exact absurd (Int32.le_trans (nI_pos' ha) h.1) (Int32.not_le.mpr q)
  · exact ⟨t, (nI_leI ha t1).mp h.1, (nI_leI t1 hb).mp h.2, rfl⟩
theorem Vw.sM (h : Vw V) {n : Nat} (hn : n < 4) : Vw (V.sM n) := ⟨h.1, hn, h.2.2⟩
theorem Vw.sC (h : Vw V) {n : Nat} (hn : 2 ≤ n ∧ n ≤ 6) : Vw (V.sC n) := ⟨h.1, h.2.1, hn, h.2.2.2⟩
/-- the measure is set -/
theorem j_meas (J : JC σ S E L V π g) {n : Nat} (hn : n ≤ 3) : ∃ σ1 σ2 σ3 S3, pfi σ 17 706 3 (nI n) = some σ1 ∧ Lk σ1 ∧ σ1.kd 19 = 11 ∧ kX1_follow σ1 19 3 = some σ2 ∧ Lk σ2 ∧ σ2.kd 23 = 19 ∧ kX9_buildAnew σ2 23 = some σ3 ∧ r_setNow_21 3 (nI n) S = some (1, S3) ∧ Jr σ S E L (V.sM n) σ3 S3 := by
  obtain ⟨st, dn⟩ := c_field J.1.1 (i := 706) (V' := V.sM n) (n := n) (Or.inr (Or.inl ⟨rfl, rfl⟩))
  have rw0 := J.2.1.1
  have l16 := J.2.2.1.2.2.2.1
  have rw1 : RW (upd (S.1 0) 3 (nI n)) 2 (V.sM n) := by
    obtain ⟨⟨b1, b2, b3⟩, b4, b5⟩ := rw0
    refine ⟨⟨upd_s, by rw [upd_n (by omega)]; exact b2, by rw [upd_n (by omega)]; exact b3⟩, fun x hx => by rw [upd_n (by omega)]; exact b4 x hx, fun k e he => ?_⟩
    rw [upd_n (by omega), upd_n (by omega), upd_n (by omega)]; exact b5 k e he
  obtain ⟨σ2, σ3, S3, a1, a2, a3, a4, a5, a6, a7, a8⟩ := j_head J dn st (J.2.2.1.sM (by omega)) rw1 (fun x hx => upd_n (by omega))
  refine ⟨_, σ2, σ3, S3, pfi_ok J.1.1.ks, a1, a2, a3, a4, a5, a6, ?_, a8⟩
  unfold r_setNow_21
  rw [show (3 : Int32) = nI 3 from rfl, wr_r0 (by omega), bind_s, a7, bind_s]
  rfl
theorem ls_measure : LS_measure In := fun n σ S x _ ⟨E, L, V, π, g, own, h⟩ => by
  unfold kX11_measure r_measure r_setNow
  rw [r_isIn_b, bind_s]
  by_cases q : (0 : Int32) ≤ x ∧ x ≤ 3
  · obtain ⟨n, -, hn, rfl⟩ := rng (a := 0) (b := 3) (by omega) (by omega) q
    obtain ⟨σ1, S1, own1, k1, k2, h1, -, -⟩ := h.keep
    obtain ⟨σ2, σ3, σ4, S4, a1, a2, a3, a4, a5, a6, a7, a8, a9⟩ := j_meas h1.jc hn
    obtain ⟨E', L', V', π', g', own', i, -⟩ := h1.jr a9
    refine ⟨1, σ4, S4, ?_, ?_, i.in⟩
    · rw [if_neg (Int32.not_lt.mpr q.1), if_pos q.2, h.lk.f7, bind_s, h.lk.f0, bind_s, ckd_ok h.k38, k1, bind_s, h1.lk.f0, bind_s, a1, bind_s, a2.f2, bind_s, a2.f0, bind_s, ckd_ok a3, a4, bind_s, a5.f3, bind_s, ckd_ok a6, a7, bind_s]
      rfl
    · rw [bI_t q, if_neg (show ¬ (1 : Int32) = 0 by decide), if_neg (show ¬ (1 : Int32) = 0 by decide), k2, bind_s, a8]
      rfl
  · refine ⟨0, σ, S, ?_, ?_, h.in⟩
    · by_cases z : x < 0
      · rw [if_pos z]; rfl
      · rw [if_neg z, if_neg (fun y => q ⟨Int32.not_lt.mp z, y⟩)]; rfl
    · rw [bI_f q, if_pos rfl]
      rfl
theorem isCap_eq {x : Int32} : kX11_isCap σ x = some (bI (2 ≤ x ∧ x ≤ 6)) := (r_isIn_b (S := default) : r_isIn _ x 2 6 = _)
/-- the cap is set -/
theorem j_cap (J : JC σ S E L V π g) {n : Nat} (hn : 2 ≤ n ∧ n ≤ 6) : ∃ σ1 σ3 S3, pfi σ 17 707 3 (nI n) = some σ1 ∧ Lk σ1 ∧ σ1.kd 23 = 19 ∧ kX9_buildAnew σ1 23 = some σ3 ∧ r_setNow_21 4 (nI n) S = some (1, S3) ∧ Jr σ S E L (V.sC n) σ3 S3 := by
  obtain ⟨st, dn⟩ := c_field J.1.1 (i := 707) (V' := V.sC n) (n := n) (Or.inr (Or.inr ⟨rfl, rfl⟩))
  have rw0 := J.2.1.1
  have l16 := J.2.2.1.2.2.2.1
  have rw1 : RW (upd (S.1 0) 4 (nI n)) 2 (V.sC n) := by
    obtain ⟨⟨b1, b2, b3⟩, b4, b5⟩ := rw0
    refine ⟨⟨by rw [upd_n (by omega)]; exact b1, upd_s, by rw [upd_n (by omega)]; exact b3⟩, fun x hx => by rw [upd_n (by omega)]; exact b4 x hx, fun k e he => ?_⟩
    rw [upd_n (by omega), upd_n (by omega), upd_n (by omega)]; exact b5 k e he
  obtain ⟨co1, kq1⟩ := J.1.hd dn st
  obtain ⟨c1, c2, c3, c4, c5, c6⟩ := co1
  have fz : Fz (sfi σ 707 3 (nI n)) (V.sC n) := c4
  obtain ⟨σ3, S3, b1, b2, b3⟩ := jc_build (S := r0 S (upd (S.1 0) 4 (nI n))) (V := V.sC n) ⟨c1, c2, c3, fz, c5, c6⟩ (J.2.2.1.sC hn) (by rw [r0_0]; exact rw1) kq1 (S0 := S) ⟨Rn.r0 (Or.inl rfl), fun x hx => by rw [r0_0]; exact upd_n (by omega)⟩
  refine ⟨_, σ3, S3, pfi_ok J.1.1.ks, c6, c2.1.1, b1, ?_, b3⟩
  unfold r_setNow_21
  rw [show (4 : Int32) = nI 4 from rfl, wr_r0 (by omega), bind_s, b2, bind_s]
  rfl
theorem ls_cap : LS_cap In := fun n σ S x _ ⟨E, L, V, π, g, own, h⟩ => by
  unfold kX11_cap r_cap r_setNow
  rw [r_isIn_b, bind_s, isCap_eq, bind_s]
  by_cases q : (2 : Int32) ≤ x ∧ x ≤ 6
  · obtain ⟨n, hn1, hn, rfl⟩ := rng (a := 2) (b := 6) (by omega) (by omega) q
    obtain ⟨σ1, S1, own1, k1, k2, h1, -, -⟩ := h.keep
    obtain ⟨σ2, σ4, S4, a1, a5, a6, a7, a8, a9⟩ := j_cap h1.jc ⟨hn1, hn⟩
    obtain ⟨E', L', V', π', g', own', i, -⟩ := h1.jr a9
    refine ⟨1, σ4, S4, ?_, ?_, i.in⟩
    · rw [bI_t q, if_neg (show ¬ (1 : Int32) = 0 by decide), h.lk.f7, bind_s, h.lk.f0, bind_s, ckd_ok h.k38, k1, bind_s, h1.lk.f0, bind_s, a1, bind_s, a5.f3, bind_s, ckd_ok a6, a7, bind_s]
      rfl
    · rw [bI_t q, if_neg (show ¬ (1 : Int32) = 0 by decide), if_neg (show ¬ (1 : Int32) = 0 by decide), k2, bind_s, a8]
      rfl
  · refine ⟨0, σ, S, ?_, ?_, h.in⟩
    · rw [bI_f q, if_pos rfl]; rfl
    · rw [bI_f q, if_pos rfl]; rfl
/-- all told ones are wiped -/
theorem r_wipe_loop {v : Int32} : ∀ (m F i : Nat) (S : MS), m < F → i + m = 48 → ∃ R', r_wipe_13 F v (nI i) S = (r_buildNow (r0 S R')).bind (fun S2 => some (v, S2)) ∧ R' 5 = 0 ∧ ∀ x, x ≠ 5 → (x < 46 ∨ 94 ≤ x) → R' x = S.1 0 x
  | m, 0, _, _, h, _ => absurd h (Nat.not_lt_zero m)
  | 0, F + 1, i, S, _, hi => by
    have : i = 48 := by omega
    subst this
    unfold r_wipe_13
    rw [if_pos (by decide), show (5 : Int32) = nI 5 from rfl, wr_r0 (by omega), bind_s]
    exact ⟨_, rfl, upd_s, fun x h5 _ => upd_n h5⟩
  | m + 1, F + 1, i, S, hF, hi => by
    unfold r_wipe_13
    rw [show (48 : Int32) = nI 48 from rfl, if_neg (nI_ge (by omega) (by omega)), show (46 : Int32) = nI 46 from rfl, nI_add, wr_r0 (by omega), bind_s, nI_1]
    obtain ⟨R', a, b, c⟩ := r_wipe_loop m F (i + 1) (r0 S (upd (S.1 0) (46 + i) 0)) (by omega) (by omega)
    refine ⟨R', by rw [a, r0_r0], b, fun x h5 hx => ?_⟩
    rw [c x h5 hx, r0_0, upd_n (by omega)]
theorem ls_wipe : LS_wipe In := fun n σ S _ ⟨E, L, V, π, g, own, h⟩ => by
  obtain ⟨σ1, S1, own1, k1, k2, h1, -, -⟩ := h.keep
  have rw0 := h1.2.1.1.1
  obtain ⟨st, dn⟩ := c_field h1.1.1 (i := 705) (V' := V.sT (V.T.take 0)) (n := 0) (Or.inl ⟨rfl, rfl, by omega⟩)
  obtain ⟨R', r1, r2, r3⟩ := r_wipe_loop (v := nI V.T.length) 48 FU 0 S1 (FU_gt (by omega)) rfl
  have rw1 : RW R' 2 (V.sT (V.T.take 0)) := by
    obtain ⟨⟨b1, b2, b3⟩, b4, b5⟩ := rw0
    refine ⟨⟨by rw [r3 _ (by omega) (by omega)]; exact b1, by rw [r3 _ (by omega) (by omega)]; exact b2, r2⟩, fun x hx => by rw [r3 _ (by omega) (by omega)]; exact b4 x hx, fun k e he => ?_⟩
    have : (V.sT (V.T.take 0)).T = [] := rfl
    rw [this] at he
    cases he
  have hv1 : Vw (V.sT (V.T.take 0)) := by
    obtain ⟨a1, a2, a3, a4, a5, a6⟩ := h1.2.1.2.1
    exact ⟨a1, a2, a3, Nat.zero_le _, fun e he => (by cases he), List.Pairwise.nil⟩
  obtain ⟨σ2, σ3, S3, a1, a2, a3, a4, a5, a6, a7, a8⟩ := j_head h1.jc dn st hv1 rw1 (fun x hx => r3 x (by omega) (by omega))
  obtain ⟨E', L', V', π', g', own', i, -⟩ := h1.jr a8
  refine ⟨nI V.T.length, σ3, S3, ?_, ?_, i.in⟩
  · unfold kX11_wipe
    rw [h.lk.f7, bind_s, h.lk.f0, bind_s, ckd_ok h.k38, k1, bind_s, h1.lk.f0, bind_s, gfi_ok h1.1.1.ks, bind_s, bind_s, h1.1.1.1.2.2.2.1.2.1, show (0 : Int32) = nI 0 from rfl, pfi_ok h1.1.1.ks, bind_s, a1.f2, bind_s, a1.f0, bind_s, ckd_ok a2, a3, bind_s, a4.f3, bind_s, ckd_ok a5, a6, bind_s]
  · unfold r_wipe
    rw [k2, bind_s, show (5 : Int32) = nI 5 from rfl, rd_r0 (by omega), bind_s, show S1.1 0 5 = nI V.T.length from rw0.1.2.2, show (0 : Int32) = nI 0 from rfl, r1, a7, bind_s]
/-- a thing's word is changed -/
theorem ls_spell : LS_spell In := fun n σ S x y _ ⟨E, L, V, π, g, own, h⟩ => by
  obtain ⟨p, a, b, c⟩ := h.bv.h x
  unfold kX11_spell r_spell
  simp only [h.lk.f0, bind_s, h.bv.1.k3, a, b]
  cases p with
  | false => exact ⟨0, σ, S, rfl, rfl, h.in⟩
  | true =>
    obtain ⟨t, rfl, ht⟩ := c rfl
    rw [bI_t rfl, if_neg (show ¬ (1 : Int32) = 0 by decide), if_neg (show ¬ (1 : Int32) = 0 by decide), h.lk.m, bind_s, ckd_ok h.k14]
    rcases w_or y with e | ⟨w, hw, rfl⟩
    · rw [c_lnone e, bind_s, if_pos rfl, r_lettersOf_eq, bind_s, e, if_pos (show o2i (none : Option Nat) = -1 from rfl)]
      exact ⟨0, σ, S, rfl, rfl, h.in⟩
    · obtain ⟨o, o1, o2, o3⟩ := j_nof h.bv hw
      rw [c_lw hw, bind_s, if_neg (cl_ne hw), r_lettersOf_w hw, bind_s, if_neg (cl_ne hw), o1, o2, bind_s, bind_s]
      cases o with
      | some s =>
        have t40 := (o3 s rfl).1
        have : ¬ o2i (some s) = -1 := fun y => (nI_m1 (by omega)).mp y
        rw [if_neg this, if_neg this]
        exact ⟨0, σ, S, rfl, rfl, h.in⟩
      | none =>
        rw [if_pos (show o2i (none : Option Nat) = -1 from rfl), if_pos (show o2i (none : Option Nat) = -1 from rfl)]
        obtain ⟨σ1, S1, own1, k1, k2, h1, -, -⟩ := h.keep
        obtain ⟨v, σ2, S2, d1, d2, d3⟩ := jc_out h1.jc ht Kq.rfl Jq.rfl
        rw [h.lk.f7, bind_s, ckd_ok h.k38, k1, bind_s, ckd_ok h1.lk.1, d1, bd2_s, k2, bind_s, d2, bind_s]
        have fin : ∀ σ3, Jr σ1 S1 E L (drV V t) σ3 S2 → ∃ σ4 S4, kX11_spell_63 2 (nI t) (nI w) σ3 = some (1, σ4) ∧ (wr S2 0 (6 + nI t) (nI w)).bind (fun S6 => (r_putNow S6 (nI t)).bind (fun S7 => (zb 1).bind (fun w => some (w, S7)))) = some (1, S4) ∧ In (n + 1) σ4 S4 := fun σ3 j => by
          obtain ⟨E', L', V', π', g', own', i, sm⟩ := h1.jr j
          have w0 : V'.W t = 0 := by
            rw [sm.1]
            show up1 V.W t 0 t = 0
            exact up1_s
          obtain ⟨σ4, S4, f1, f2, f3⟩ := jc_in i.jc ht.1 w0 hw Kq.rfl Jq.rfl
          obtain ⟨E2, L2, V2, π2, g2, own2, i2, -⟩ := i.jr f3
          refine ⟨σ4, S4, ?_, ?_, i2.in⟩
          · unfold kX11_spell_63
            rw [ckd_ok i.lk.1, f1, bd2_s]; rfl
          · have := ht.1
            rw [show (6 : Int32) = nI 6 from rfl, nI_add, wr_r0 (by omega), bind_s, f2, bind_s]; rfl
        rcases d3 with ⟨rfl, d4⟩ | ⟨rfl, l1, l2, σ3, d5, d4⟩
        · obtain ⟨σ4, S4, f1, f2, f3⟩ := fin σ2 d4
          rw [if_pos rfl]
          exact ⟨1, σ4, S4, f1, f2, f3⟩
        · obtain ⟨σ4, S4, f1, f2, f3⟩ := fin σ3 d4
          rw [if_neg (show ¬ (1 : Int32) = 0 by decide), l1.f3, bind_s, ckd_ok l2, d5, bind_s]
          exact ⟨1, σ4, S4, f1, f2, f3⟩
end SETS
