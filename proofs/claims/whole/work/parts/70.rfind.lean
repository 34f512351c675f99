section RFT
variable {S : MS} {V : Vt} {q u : Nat} {lf : Bool} {L : List Re} {es : List Ent}
theorem r_new19 (hu : u < 784) : ∀ (m F k : Nat) (T : MS), m < F → k + m = 30 → ∃ g, r_newPage_19 F (bI (lf = true)) (nI u) (nI k) T = some (nI u, r0 T g) ∧ (∀ x, 94 + 30 * u + k ≤ x → x < 94 + 30 * u + 30 → x ≠ 94 + 30 * u + 1 → g x = 0) ∧ (lf = true → g (94 + 30 * u + 1) = 1) ∧ (lf = false → k ≤ 1 → g (94 + 30 * u + 1) = 0) ∧ (lf = false → 2 ≤ k → g (94 + 30 * u + 1) = T.1 0 (94 + 30 * u + 1)) ∧ (∀ x, x < 94 + 30 * u + k ∨ 94 + 30 * u + 30 ≤ x → x ≠ 94 + 30 * u + 1 → g x = T.1 0 x)
  | m, 0, _, _, h, _ => absurd h (Nat.not_lt_zero m)
  | 0, F + 1, k, T, _, hk => by
    have : k = 30 := by omega
    subst this
    rw [r_newPage_19.eq_2, if_pos (by decide)]
    cases lf with
    | false =>
      rw [if_pos (by decide)]
      exact ⟨T.1 0, by rw [r0_self], fun x h1 h2 => by omega, fun h => (by cases h), fun _ h => (by omega), fun _ _ => rfl, fun _ _ _ => rfl⟩
    | true =>
      rw [if_neg (by decide), show (1 : Int32) = nI 1 from rfl, r_let_eq hu (by omega), bind_s]
      exact ⟨_, rfl, fun x h1 h2 => by omega, fun _ => upd_s, fun h => (by cases h), fun h => (by cases h), fun x _ hx => upd_n hx⟩
  | m + 1, F + 1, k, T, hF, hk => by
    rw [r_newPage_19.eq_2, show (30 : Int32) = nI 30 from rfl, if_neg (nI_ge (by omega) (by omega)), r_let_eq hu (by omega), bind_s, nI_1]
    obtain ⟨g, g1, g2, g3, g4, g5, g6⟩ := r_new19 hu m F (k + 1) (r0 T (upd (T.1 0) (94 + 30 * u + k) 0)) (by omega) (by omega)
    rw [r0_r0] at g1
    rw [r0_0] at g5 g6
    refine ⟨g, g1, fun x h1 h2 h3 => ?_, g3, fun h hk => ?_, fun h hk => ?_, fun x hx hn => ?_⟩
    · by_cases z : x = 94 + 30 * u + k
      · rw [g6 x (Or.inl (by omega)) h3, z]; exact upd_s
      · exact g2 x (by omega) h2 h3
    · by_cases z : k = 1
      · rw [g5 h (by omega), z]; exact upd_s
      · exact g4 h (by omega)
    · rw [g5 h (by omega), upd_n (by omega)]
    · rw [g6 x (by omega) hn, upd_n (by omega)]
/-- a new page -/
theorem r_newPage_eq (hu : u < 784) (h1 : ∀ p, p < u → S.1 0 (94 + 30 * p) ≠ -1) (h2 : S.1 0 (94 + 30 * u) = -1) : ∃ g, r_newPage S (bI (lf = true)) = some (nI u, r0 S g) ∧ RP g (94 + 30 * u) lf [] ∧ ∀ x, x < 94 + 30 * u ∨ 94 + 30 * u + 30 ≤ x → g x = S.1 0 x := by
  have key : ∀ (m F i : Nat), m < F → i + m = u → r_newPage_2 F (bI (lf = true)) (nI i) S = r_newPage_19 FU (bI (lf = true)) (nI u) 0 S := by
    intro m
    induction m with
    | zero =>
      intro F i hF hi
      obtain ⟨F, rfl⟩ : ∃ F', F = F' + 1 := ⟨F - 1, by omega⟩
      have : i = u := by omega
      subst this
      rw [r_newPage_2.eq_2, r_countOf_eq hu, bind_s, if_pos h2]
    | succ m ih =>
      intro F i hF hi
      obtain ⟨F, rfl⟩ : ∃ F', F = F' + 1 := ⟨F - 1, by omega⟩
      rw [r_newPage_2.eq_2, r_countOf_eq (by omega), bind_s, if_neg (h1 i (by omega)), nI_1]
      exact ih F (i + 1) (by omega) (by omega)
  unfold r_newPage
  rw [show (0 : Int32) = nI 0 from rfl, key u FU 0 (FU_gt (by omega)) (by omega)]
  obtain ⟨g, g1, g2, g3, g4, g5, g6⟩ := r_new19 (lf := lf) hu 30 FU 0 S (FU_gt (by omega)) rfl
  refine ⟨g, g1, ⟨⟨?_, ?_⟩, fun k e he => (by cases he), by show 0 ≤ 7; omega⟩, fun x hx => g6 x (by omega) (by omega)⟩
  · rw [g2 _ (by omega) (by omega) (by omega)]; rfl
  · cases lf with
    | true => rw [g3 rfl]; rfl
    | false => rw [g4 rfl (by omega)]; rfl
/-- rows and numbers that the splitting writes -/
def Ra (x : Nat) : Prop := x = 0 ∨ x = 2 ∨ x = 3 ∨ x = 6 ∨ x = 7
def Rb (x : Nat) : Prop := 8 ≤ x ∧ x ≤ 14
def Rc (x : Nat) : Prop := x = 2 ∨ x = 3 ∨ x = 6 ∨ x = 7
def Fi (V : Vt) (es : List Ent) (T : MS) (i j : Nat) : Prop := T.2 10 = nI i ∧ T.2 11 = nI j ∧ T.2 12 = nI (gr1 V es i j es.length) ∧ T.2 13 = nI (gr2 V es i j es.length) ∧ ∀ k, k < es.length → T.1 7 k = bI (secB V es i j k = true)
theorem r_copy7 {k12 : Int32 → Int32 → Int32 → Int32 → MS → Option MS} {k24 : Int32 → Int32 → Int32 → Int32 → Int32 → MS → Option MS} {x1 x3 x4 x5 : Int32} {n : Nat} {f : Nat → Bool} (hn : n ≤ 7) : ∀ (m F k : Nat) (T : MS), m < F → k + m = n → (∀ i, i < n → T.1 6 i = bI (f i = true)) → (∀ i, i < k → T.1 7 i = bI (f i = true)) → ∃ T', r_findTwo_106 k12 k24 F x1 (nI n) x3 x4 x5 (nI k) T = k24 x1 (nI n) x3 x4 (x5 + 1) T' ∧ Rn (fun x => x = 7) (fun _ => False) T T' ∧ ∀ i, i < n → T'.1 7 i = bI (f i = true)
  | m, 0, _, _, h, _, _, _ => absurd h (Nat.not_lt_zero m)
  | 0, F + 1, k, T, _, hk, _, h7 => by
    have : k = n := by omega
    subst this
    rw [r_findTwo_106.eq_2, if_pos (nI_le (Nat.le_refl _) (by omega))]
    exact ⟨T, rfl, Rn.rfl, h7⟩
  | m + 1, F + 1, k, T, hF, hk, h6, h7 => by
    rw [r_findTwo_106.eq_2, if_neg (nI_ge (by omega) (by omega)), rd_ok (show k < m_len 6 by rw [len6]; omega) (by omega), bind_s, h6 k (by omega), nar_bI, wr_ok (show k < m_len 7 by rw [len7]; omega) (by omega), bind_s, nI_1]
    obtain ⟨T', g1, g2, g3⟩ := r_copy7 (k12 := k12) (k24 := k24) (x1 := x1) (x3 := x3) (x4 := x4) (x5 := x5) (f := f) hn m F (k + 1) (up2 T.1 7 k (bI (f k = true)), T.2) (by omega) (by omega) (fun i hi => by
      show up2 T.1 7 k (bI (f k = true)) 6 i = _
      rw [up2_n (by omega)]; exact h6 i hi) (fun i hi => by
      show up2 T.1 7 k (bI (f k = true)) 7 i = _
      by_cases z : i = k
      · rw [z, up2_s]
      · rw [up2_n (fun y => z y.2)]; exact h7 i (by omega))
    exact ⟨T', g1, Rn.tr (Rn.up (A := fun x => x = 7) (B := fun _ => False) rfl) g2, g3⟩
set_option maxHeartbeats 1000000 in
theorem r_find24 {k12 : Int32 → Int32 → Int32 → Int32 → MS → Option MS} (rw0 : RW (S.1 0) 2 V) (hv : Vw V) (rp : RP (S.1 0) (94 + 30 * q) lf L) (hq : q < 784) (hL : Lm es L) (hes : ∀ e ∈ es, hs V e.1 ∧ e.2.1 ≤ 9000) {i : Nat} (hi : i < es.length) : ∀ (m F j : Nat) (s : Nat × Nat × Nat) (T : MS), m < F → j + m = es.length → i < j → s.2.2 ≤ 2000000000 → Rn Rc Rb S T → (s.2.2 ≠ 2000000000 → Fi V es T s.1 s.2.1) → ∃ T', r_findTwo_24 k12 F (nI q) (nI es.length) (nI s.2.2) (nI i) (nI j) T = k12 (nI q) (nI es.length) (nI (bin (wtw V es) i m j s).2.2) (nI (i + 1)) T' ∧ Rn Rc Rb S T' ∧ (bin (wtw V es) i m j s).2.2 ≤ 2000000000 ∧ ((bin (wtw V es) i m j s).2.2 ≠ 2000000000 → Fi V es T' (bin (wtw V es) i m j s).1 (bin (wtw V es) i m j s).2.1)
  | m, 0, _, _, _, h, _, _, _, _, _ => absurd h (Nat.not_lt_zero m)
  | 0, F + 1, j, s, T, _, hj, _, hs2, d, fi => by
    have h7 := rp.2.2
    have hl := hL.1
    have : j = es.length := by omega
    subst this
    rw [r_findTwo_24.eq_2, if_pos (nI_le (Nat.le_refl _) (by omega)), nI_1]
    exact ⟨T, rfl, d, hs2, fi⟩
  | m + 1, F + 1, j, s, T, hF, hj, hij, hs2, d, fi => by
    have h7 := rp.2.2
    have hl := hL.1
    have wl := wtw_le hv (fun e he => (hes e he).2) i j
    have g0 : T.1 0 = S.1 0 := d.1 0 (fun q => by unfold Rc at q; omega)
    obtain ⟨T1, g1, g2, g3, g4, g5⟩ := r_part_eq (S := T) (by rw [g0]; exact rw0) hv (by rw [g0]; exact rp) hq hL hes hi (show j < es.length by omega) (by omega)
    have d1 : Rn Rc Rb S T1 := d.tr (g2.mono (fun x q => by unfold Rc; omega) (fun x q => by unfold Rb; omega))
    have gb1 := gr1_le hv (i := i) (j := j) (rg_le (fun e he => (hes e he).2)) es.length
    have gb2 := gr2_le hv (i := i) (j := j) (rg_le (fun e he => (hes e he).2)) es.length
    rw [r_findTwo_24.eq_2, if_neg (nI_ge (by omega) (by omega)), g1, bind_s]
    have e : (if T1.2 8 ≤ T1.2 9 then r_findTwo_61 k12 (r_findTwo_24 k12 F) (nI q) (nI es.length) (nI s.2.2) (nI i) (nI j) (T1.2 9) T1 else r_findTwo_61 k12 (r_findTwo_24 k12 F) (nI q) (nI es.length) (nI s.2.2) (nI i) (nI j) (T1.2 8) T1) = r_findTwo_61 k12 (r_findTwo_24 k12 F) (nI q) (nI es.length) (nI s.2.2) (nI i) (nI j) (nI (wtw V es i j)) T1 := by
      rw [g3, g4]
      unfold wtw
      by_cases z : gr1 V es i j es.length ≤ gr2 V es i j es.length
      · rw [if_pos (nI_le z (by omega)), Nat.max_eq_right z]
      · rw [if_neg (nI_ge (by omega) (by omega)), Nat.max_eq_left (by omega)]
    rw [e]
    unfold r_findTwo_61 r_findTwo_132 bin
    by_cases z : wtw V es i j < s.2.2
    · rw [if_pos (nI_lt z (by omega)), if_pos z]
      generalize hT2 : pf (pf (pf (pf T1 10 (nI i)) 11 (nI j)) 12 ((pf (pf T1 10 (nI i)) 11 (nI j)).2 8)) 13 ((pf (pf (pf T1 10 (nI i)) 11 (nI j)) 12 ((pf (pf T1 10 (nI i)) 11 (nI j)).2 8)).2 9) = T2
      have d2 : Rn Rc Rb S T2 := by rw [← hT2]; exact (((d1.tr (Rn.pf ⟨by omega, by omega⟩)).tr (Rn.pf ⟨by omega, by omega⟩)).tr (Rn.pf ⟨by omega, by omega⟩)).tr (Rn.pf ⟨by omega, by omega⟩)
      obtain ⟨T3, k1, k2, k3⟩ := r_copy7 (k12 := k12) (k24 := r_findTwo_24 k12 F) (x1 := nI q) (x3 := nI (wtw V es i j)) (x4 := nI i) (x5 := nI j) (f := secB V es i j) (n := es.length) (by omega) es.length FU 0 T2 (FU_gt (by omega)) (by omega) (fun i hi => by rw [← hT2]; exact g5 i hi) (fun i hi => absurd hi (Nat.not_lt_zero _))
      rw [show (0 : Int32) = nI 0 from rfl, k1, nI_1]
      have f3 : T3.2 = T2.2 := by funext x; exact k2.2 x (fun q => q)
      refine r_find24 rw0 hv rp hq hL hes hi m F (j + 1) (i, j, wtw V es i j) T3 (by omega) (by omega) (by omega) (by show wtw V es i j ≤ _; omega) (d2.tr (k2.mono (fun x q => by unfold Rc; omega) (fun x q => q.elim))) (fun _ => ?_)
      unfold Fi
      rw [f3, ← hT2]
      refine ⟨?_, ?_, ?_, ?_, k3⟩
      · rw [pf_n (by omega), pf_n (by omega), pf_n (by omega), pf_s]
      · rw [pf_n (by omega), pf_n (by omega), pf_s]
      · rw [pf_n (by omega), pf_s, pf_n (by omega), pf_n (by omega), g3]
      · rw [pf_s, pf_n (by omega), pf_n (by omega), pf_n (by omega), g4]
    · rw [if_neg (nI_nlt (by omega) (by omega)), if_neg z, nI_1]
      refine r_find24 rw0 hv rp hq hL hes hi m F (j + 1) s T1 (by omega) (by omega) (by omega) hs2 d1 (fun y => ?_)
      obtain ⟨a1, a2, a3, a4, a5⟩ := fi y
      have ff : ∀ x, x ≠ 8 → x ≠ 9 → T1.2 x = T.2 x := fun x h8 h9 => g2.2 x (by omega)
      refine ⟨by rw [ff 10 (by omega) (by omega)]; exact a1, by rw [ff 11 (by omega) (by omega)]; exact a2, by rw [ff 12 (by omega) (by omega)]; exact a3, by rw [ff 13 (by omega) (by omega)]; exact a4, by rw [g2.1 7 (by omega)]; exact a5⟩
theorem r_find12 (rw0 : RW (S.1 0) 2 V) (hv : Vw V) (rp : RP (S.1 0) (94 + 30 * q) lf L) (hq : q < 784) (hL : Lm es L) (hes : ∀ e ∈ es, hs V e.1 ∧ e.2.1 ≤ 9000) : ∀ (m F i : Nat) (s : Nat × Nat × Nat) (T : MS), m < F → i + m = es.length → s.2.2 ≤ 2000000000 → Rn Rc Rb S T → (s.2.2 ≠ 2000000000 → Fi V es T s.1 s.2.1) → ∃ T', r_findTwo_12 F (nI q) (nI es.length) (nI s.2.2) (nI i) T = some T' ∧ Rn Rc Rb S T' ∧ ((bou (wtw V es) es.length m i s).2.2 ≠ 2000000000 → Fi V es T' (bou (wtw V es) es.length m i s).1 (bou (wtw V es) es.length m i s).2.1)
  | m, 0, _, _, _, h, _, _, _, _ => absurd h (Nat.not_lt_zero m)
  | 0, F + 1, i, s, T, _, hi, _, d, fi => by
    have h7 := rp.2.2
    have hl := hL.1
    have : i = es.length := by omega
    subst this
    rw [r_findTwo_12.eq_2, if_pos (nI_le (Nat.le_refl _) (by omega))]
    exact ⟨T, rfl, d, fi⟩
  | m + 1, F + 1, i, s, T, hF, hi, hs2, d, fi => by
    have h7 := rp.2.2
    have hl := hL.1
    rw [r_findTwo_12.eq_2, if_neg (nI_ge (by omega) (by omega)), nI_1]
    obtain ⟨T1, g1, g2, g3, g4⟩ := r_find24 (k12 := r_findTwo_12 F) rw0 hv rp hq hL hes (show i < es.length by omega) (es.length - (i + 1)) FU (i + 1) s T (FU_gt (by omega)) (by omega) (by omega) hs2 d fi
    rw [g1]
    exact r_find12 rw0 hv rp hq hL hes m F (i + 1) _ T1 (by omega) (by omega) g3 g2 g4
theorem r_findTwo_eq (rw0 : RW (S.1 0) 2 V) (hv : Vw V) (rp : RP (S.1 0) (94 + 30 * q) lf L) (hq : q < 784) (hL : Lm es L) (hes : ∀ e ∈ es, hs V e.1 ∧ e.2.1 ≤ 9000) (h2 : 2 ≤ es.length) : ∃ T', r_findTwo S (nI q) = some T' ∧ Rn Rc Rb S T' ∧ Fi V es T' (bst V es).1 (bst V es).2.1 := by
  have bb := bst_ok hv (fun e he => (hes e he).2) h2
  have wl := wtw_le hv (fun e he => (hes e he).2)
  unfold r_findTwo
  rw [rp.n hq, bind_s, hL.1]
  obtain ⟨T', g1, g2, g3⟩ := r_find12 rw0 hv rp hq hL hes es.length FU 0 (0, 0, 2000000000) S (FU_gt (by have := rp.2.2; have := hL.1; omega)) (by omega) (Nat.le_refl _) Rn.rfl (fun y => absurd rfl y)
  rw [bou_far h2 (by have := wl 0 1; omega)] at g3
  exact ⟨T', g1, g2, g3 (by have := bb.2.2; unfold bst at this; omega)⟩
end RFT
