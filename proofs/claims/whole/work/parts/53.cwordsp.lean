theorem kX2_lettersIn_20_eq {σ : Hp} : ∀ (m F w n c : Nat), m < F → m + c = 6 → w < 9 ^ m → w < 2 ^ 31 → kX2_lettersIn_20 σ F (nI n) (nI w) (nI c) = some (o2i ((lo m w).map (· + n)))
  | m, 0, w, n, c, h, _, _, _ => absurd h (Nat.not_lt_zero m)
  | 0, F + 1, w, n, c, _, hc, hw, _ => by
    have : c = 6 := by omega
    subst this
    unfold kX2_lettersIn_20
    rw [if_pos (by decide)]
    simp [lo, o2i]
  | m + 1, F + 1, w, n, c, hF, hm, hw, h31 => by
    unfold kX2_lettersIn_20 lo
    have e6 : (6 : Int32) = nI 6 := rfl
    rw [e6, if_neg (nI_ge (by omega) (by omega))]
    by_cases h : w = 0
    · subst h
      rw [if_pos (by decide), if_pos rfl]
      simp [o2i]
    · rw [if_neg (nI_nle (by omega) h31), if_neg h]
      have e9 : (9 : Int32) = nI 9 := rfl
      rw [e9, pk_rem h31 (by decide) (by decide), pk_div h31 (by decide) (by decide)]
      by_cases h2 : w % 9 = 0
      · rw [h2, if_pos (by decide), if_pos rfl]
        rfl
      · rw [if_neg (nI_ne0 (by omega) (by omega)), if_neg h2, nI_1, nI_1]
        have h9 : 9 ^ (m + 1) = 9 ^ m * 9 := rfl
        rw [kX2_lettersIn_20_eq m F (w / 9) (n + 1) (c + 1) (by omega) (by omega) (by omega) (by omega)]
        cases lo m (w / 9) with
        | none => rfl
        | some k => simp [o2i, Nat.add_comm, Nat.add_left_comm]
theorem kX2_lettersIn_eq {σ : Hp} {b : Nat} {x : Int32} : kX2_lettersIn σ b x = some (o2i (letters x.toNatClampNeg)) := by
  unfold kX2_lettersIn
  by_cases h : x < 0
  · have n1 : x < 1 := Int32.lt_of_lt_of_le h (by decide)
    rw [clamp_neg h, if_pos n1]
    rfl
  · obtain ⟨w, hw, rfl⟩ := nI_of h
    rw [nI_clamp hw]
    have e1 : (1 : Int32) = nI 1 := rfl
    have e2 : (531440 : Int32) = nI 531440 := rfl
    rw [e1, e2]
    unfold letters
    by_cases q : w < 1
    · rw [if_pos (nI_lt q (by decide)), if_pos (Or.inl q)]
      rfl
    · rw [if_neg (nI_nlt (by omega) hw)]
      by_cases q2 : 531440 < w
      · rw [if_neg (nI_ge q2 hw), if_pos (Or.inr q2)]
        rfl
      · rw [if_pos (nI_le (by omega) (by decide)), if_neg (by omega)]
        have := kX2_lettersIn_20_eq (σ := σ) 6 FU w 0 0 (by decide) rfl (by omega) hw
        rw [nI_0] at this
        rw [this]
        simp
def saw (x : Hp) (a : Nat) (f : Nat → Int32) : Hp := mkH x.kd x.ln x.fi x.fr (upr x.ar a f) x.rr x.nx x.us
theorem sar_saw {x : Hp} {a i : Nat} {v : Int32} : sar x a i v = saw x a (upd (x.ar a) i v) := by
  unfold sar saw mkH
  congr 5
  funext b j
  unfold up3 upr upd
  by_cases h : b = a
  · subst h; simp
  · simp [h]
theorem saw_saw {x : Hp} {a : Nat} {f g : Nat → Int32} : saw (saw x a f) a g = saw x a g := by
  have e : upr (saw x a f).ar a g = upr x.ar a g := by
    funext b
    show (if b = a then g else (if b = a then f else x.ar b)) = if b = a then g else x.ar b
    split <;> rfl
  show mkH x.kd x.ln x.fi x.fr (upr (saw x a f).ar a g) x.rr x.nx x.us = mkH x.kd x.ln x.fi x.fr (upr x.ar a g) x.rr x.nx x.us
  rw [e]
theorem ar_saw {x : Hp} {a : Nat} {f : Nat → Int32} : (saw x a f).ar a = f := if_pos rfl
theorem ar_saw_ne {x : Hp} {a b : Nat} {f : Nat → Int32} (h : b ≠ a) : (saw x a f).ar b = x.ar b := if_neg h
theorem upd_s {f : Nat → Int32} {k : Nat} {x : Int32} : upd f k x k = x := if_pos rfl
theorem upd_n {f : Nat → Int32} {k j : Nat} {x : Int32} (h : j ≠ k) : upd f k x j = f j := if_neg h
theorem kX2_spellOut_31_eq {x1 c : Nat} (hc : c ≤ 6) : ∀ (n F r : Nat) (σ : Hp), n < F → n ≤ 6 → r < 2 ^ 31 → σ.kd x1 = 1 → σ.ln x1 = 6 →
    ∃ f : Nat → Int32, kX2_spellOut_31 F x1 (nI c) (nI r) (nI n + (-1)) σ = some (nI c, saw σ x1 f) ∧ (∀ i, i < n → f i = if i < c then nI (dv (min n c - 1 - i) r % 9) else 0) ∧ (∀ i, n ≤ i → f i = σ.ar x1 i)
  | n, 0, _, _, h, _, _, _, _ => absurd h (Nat.not_lt_zero n)
  | 0, F + 1, r, σ, _, _, _, hk, hl => by
    unfold kX2_spellOut_31
    refine ⟨σ.ar x1, ?_, fun i hi => absurd hi (Nat.not_lt_zero i), fun i _ => rfl⟩
    rw [if_pos (by decide)]
    congr 2
    unfold saw mkH
    have : upr σ.ar x1 (σ.ar x1) = σ.ar := by
      funext b
      unfold upr
      split
      · rename_i q; rw [q]
      · rfl
    rw [this]
    rfl
  | n + 1, F + 1, r, σ, hF, hn, hr, hk, hl => by
    unfold kX2_spellOut_31
    rw [nI_dec (by omega), Nat.add_sub_cancel, if_neg (nI_pos (by omega))]
    unfold kX2_spellOut_63
    by_cases q : c ≤ n
    · rw [if_pos (nI_le q (by omega)), ast_ok hk (by omega) (by omega), bind_s, sar_saw]
      obtain ⟨f, g1, g2, g3⟩ := kX2_spellOut_31_eq hc n F r (saw σ x1 (upd (σ.ar x1) n 0)) (by omega) (by omega) hr hk hl
      refine ⟨f, ?_, fun i hi => ?_, fun i hi => ?_⟩
      · rw [g1, saw_saw]
      · by_cases q2 : i = n
        · subst q2
          rw [g3 i (Nat.le_refl i), ar_saw, upd_s, if_neg (by omega)]
        · rw [g2 i (by omega)]
          have : min n c = min (n + 1) c := by omega
          rw [this]
      · rw [g3 i (by omega), ar_saw, upd_n (by omega)]
    · have e9 : (9 : Int32) = nI 9 := rfl
      rw [if_neg (nI_ge (by omega) (by omega)), e9, pk_rem hr (by decide) (by decide), pk_div hr (by decide) (by decide), ast_ok hk (by omega) (by omega), bind_s, sar_saw]
      obtain ⟨f, g1, g2, g3⟩ := kX2_spellOut_31_eq hc n F (r / 9) (saw σ x1 (upd (σ.ar x1) n (nI (r % 9)))) (by omega) (by omega) (by omega) hk hl
      refine ⟨f, ?_, fun i hi => ?_, fun i hi => ?_⟩
      · rw [g1, saw_saw]
      · by_cases q2 : i = n
        · subst q2
          rw [g3 i (Nat.le_refl i), ar_saw, upd_s, if_pos (by omega)]
          have : min (i + 1) c - 1 - i = 0 := by omega
          rw [this]
          rfl
        · rw [g2 i (by omega), if_pos (by omega), if_pos (by omega)]
          have : min (n + 1) c - 1 - i = (min n c - 1 - i) + 1 := by omega
          rw [this]
          rfl
      · rw [g3 i (by omega), ar_saw, upd_n (by omega)]
theorem kX2_spellOut_4_eq {w x1 : Nat} {σ : Hp} (hw : w < 531441) : ∀ (m F c : Nat), m < F → m + c = 6 → c ≤ cl w → kX2_spellOut_4 F (nI w) x1 (nI c) (nI (9 ^ c)) σ = kX2_spellOut_26 (nI w) x1 (nI (cl w)) σ
  | m, 0, _, h, _, _ => absurd h (Nat.not_lt_zero m)
  | 0, F + 1, c, _, hc, hcl => by
    have := cl_le w
    have e : cl w = c := by omega
    unfold kX2_spellOut_4
    have e6 : (6 : Int32) = nI 6 := rfl
    rw [e6, if_pos (nI_le (by omega) (by omega)), e]
  | m + 1, F + 1, c, hF, hc, hcl => by
    unfold kX2_spellOut_4
    have e6 : (6 : Int32) = nI 6 := rfl
    have e9 : (9 : Int32) = nI 9 := rfl
    have hp : 9 ^ c ≤ 9 ^ 5 := Nat.pow_le_pow_right (by decide) (by omega)
    rw [e6, if_neg (nI_ge (by omega) (by omega))]
    have key : w < 9 ^ c ↔ cl w ≤ c := by
      have h6 : c = 0 ∨ c = 1 ∨ c = 2 ∨ c = 3 ∨ c = 4 ∨ c = 5 := by omega
      unfold cl
      rcases h6 with rfl | rfl | rfl | rfl | rfl | rfl <;> (repeat' split) <;> omega
    by_cases q : w < 9 ^ c
    · rw [if_pos (nI_lt q (by omega))]
      have : cl w = c := by have := key.mp q; omega
      rw [this]
    · rw [if_neg (nI_nlt (by omega) (by omega)), e9, pk_mul, nI_1]
      have : ¬ cl w ≤ c := fun z => q (key.mpr z)
      exact kX2_spellOut_4_eq hw m F (c + 1) (by omega) (by omega) (by omega)
theorem kX2_spellOut_eq {σ : Hp} {w x1 : Nat} (hw : w < 531441) (hk : σ.kd x1 = 1) (hl : σ.ln x1 = 6) : ∃ f : Nat → Int32, kX2_spellOut σ (nI w) x1 = some (nI (cl w), saw σ x1 f) ∧ ∀ i, i < 6 → f i = nI (lt w i) := by
  unfold kX2_spellOut
  have e0 : (0 : Int32) = nI 0 := rfl
  have e1 : (1 : Int32) = nI (9 ^ 0) := rfl
  rw [e0, e1, kX2_spellOut_4_eq hw 6 FU 0 (by decide) rfl (by omega)]
  unfold kX2_spellOut_26
  have e5 : (5 : Int32) = nI 6 + (-1) := by decide
  rw [e5]
  obtain ⟨f, g1, g2, -⟩ := kX2_spellOut_31_eq (x1 := x1) (cl_le w) 6 FU w σ (by decide) (by omega) (by omega) hk hl
  refine ⟨f, g1, fun i hi => ?_⟩
  rw [g2 i hi]
  unfold lt
  have := cl_le w
  have e : min 6 (cl w) = cl w := by omega
  rw [e]
  split <;> rfl
-- the measuring object
def Mo (σ : Hp) (r q : Nat) : Prop := (σ.kd 14 = 12 ∧ σ.kd 15 = 1 ∧ σ.kd 16 = 1 ∧ σ.kd 17 = 1 ∧ σ.kd 18 = 1) ∧ (σ.ln 15 = 6 ∧ σ.ln 16 = 6 ∧ σ.ln 17 = 7 ∧ σ.ln 18 = 7) ∧ (σ.fr 200 14 = 15 ∧ σ.fr 201 14 = 16 ∧ σ.fr 202 14 = r ∧ σ.fr 203 14 = q) ∧ ((r = 17 ∧ q = 18) ∨ (r = 18 ∧ q = 17))
theorem Mo.row {σ : Hp} {r q : Nat} (h : Mo σ r q) : σ.kd r = 1 ∧ σ.kd q = 1 ∧ σ.ln r = 7 ∧ σ.ln q = 7 ∧ r ≠ q ∧ (17 ≤ r ∧ r ≤ 18) ∧ (17 ≤ q ∧ q ≤ 18) := by
  obtain ⟨⟨a1, a2, a3, a4, a5⟩, ⟨b1, b2, b3, b4⟩, c, d⟩ := h
  rcases d with ⟨rfl, rfl⟩ | ⟨rfl, rfl⟩
  · exact ⟨a4, a5, b3, b4, by decide, by decide, by decide⟩
  · exact ⟨a5, a4, b4, b3, by decide, by decide, by decide⟩
def Mr (σ σ' : Hp) : Prop := (σ'.kd = σ.kd ∧ σ'.ln = σ.ln ∧ σ'.fi = σ.fi ∧ σ'.rr = σ.rr ∧ σ'.nx = σ.nx ∧ σ'.us = σ.us) ∧ (∀ a, a < 15 ∨ 18 < a → σ'.ar a = σ.ar a) ∧ (∀ i a, a ≠ 14 → σ'.fr i a = σ.fr i a)
theorem Mr.rfl {σ : Hp} : Mr σ σ := ⟨⟨Eq.refl _, Eq.refl _, Eq.refl _, Eq.refl _, Eq.refl _, Eq.refl _⟩, fun _ _ => Eq.refl _, fun _ _ _ => Eq.refl _⟩
theorem Mr.trans {σ σ1 σ2 : Hp} (h : Mr σ σ1) (g : Mr σ1 σ2) : Mr σ σ2 := by
  obtain ⟨⟨a1, a2, a3, a4, a5, a6⟩, a7, a8⟩ := h
  obtain ⟨⟨b1, b2, b3, b4, b5, b6⟩, b7, b8⟩ := g
  exact ⟨⟨b1.trans a1, b2.trans a2, b3.trans a3, b4.trans a4, b5.trans a5, b6.trans a6⟩, fun a h => (b7 a h).trans (a7 a h), fun i a h => (b8 i a h).trans (a8 i a h)⟩
theorem Mr.saw {σ : Hp} {a : Nat} {f : Nat → Int32} (h : 15 ≤ a ∧ a ≤ 18) : Mr σ (saw σ a f) := ⟨⟨Eq.refl _, Eq.refl _, Eq.refl _, Eq.refl _, Eq.refl _, Eq.refl _⟩, fun b hb => ar_saw_ne (by omega), fun _ _ _ => Eq.refl _⟩
theorem Mo.saw {σ : Hp} {r q a : Nat} {f : Nat → Int32} (h : Mo σ r q) : Mo (saw σ a f) r q := h
theorem kX2_byEdit_37_eq {k22 : Nat → Int32 → Int32 → Int32 → Hp → Option (Int32 × Hp)} {w v i M : Nat} (hi : i < cl w) (hM : M = cl v) {r q : Nat} : ∀ (m F j : Nat) (σ : Hp), m < F → j + m = M → Mo σ r q → (∀ k, k < 6 → σ.ar 15 k = nI (lt w k)) → (∀ k, k < 6 → σ.ar 16 k = nI (lt v k)) →
    (∀ k, k ≤ M → σ.ar r k = nI (ed (lt w) (lt v) i k)) → (∀ k, k ≤ j → σ.ar q k = nI (ed (lt w) (lt v) (i + 1) k)) →
    ∃ σ', kX2_byEdit_37 k22 F 14 (nI (cl w)) (nI M) (nI (i + 1)) (nI (j + 1)) σ = k22 14 (nI (cl w)) (nI M) (nI (i + 2)) σ' ∧ Mr σ σ' ∧ Mo σ' q r ∧ (∀ k, k < 6 → σ'.ar 15 k = nI (lt w k)) ∧ (∀ k, k < 6 → σ'.ar 16 k = nI (lt v k)) ∧ (∀ k, k ≤ M → σ'.ar q k = nI (ed (lt w) (lt v) (i + 1) k))
  | m, 0, _, _, h, _, _, _, _, _, _ => absurd h (Nat.not_lt_zero m)
  | 0, F + 1, j, σ, _, hj, mo, h15, h16, h3, h2 => by
    have a1 := cl_le v
    obtain ⟨⟨c1, c2, c3, c4, c5⟩, ⟨l1, l2, l3, l4⟩, ⟨f1, f2, f3, f4⟩, d⟩ := id mo
    unfold kX2_byEdit_37
    rw [if_pos (nI_lt (by omega) (by omega)), nI_1, gfr_ok c1, bind_s, gfr_ok c1, bind_s, pfr_ok c1, bind_s, pfr_ok (show (sfr σ 202 14 _).kd 14 = 12 from c1), bind_s, f3, f4]
    refine ⟨_, rfl, ⟨⟨rfl, rfl, rfl, rfl, rfl, rfl⟩, fun _ _ => rfl, fun i a ha => ?_⟩, ⟨⟨c1, c2, c3, c4, c5⟩, ⟨l1, l2, l3, l4⟩, ⟨?_, ?_, ?_, ?_⟩, by omega⟩, h15, h16, fun k hk => h2 k (by omega)⟩
    · rw [fr_sfr, if_neg (fun z => ha z.2), fr_sfr, if_neg (fun z => ha z.2)]
    · rw [fr_sfr, if_neg (by decide), fr_sfr, if_neg (by decide)]; exact f1
    · rw [fr_sfr, if_neg (by decide), fr_sfr, if_neg (by decide)]; exact f2
    · rw [fr_sfr, if_neg (by decide), fr_sfr, if_pos (by decide)]
    · rw [fr_sfr, if_pos (by decide)]
  | m + 1, F + 1, j, σ, hF, hj, mo, h15, h16, h3, h2 => by
    have a1 := cl_le v
    have a2 := cl_le w
    have e1 : (1 : Int32) = nI 1 := rfl
    have b1 := ed_le (lt w) (lt v) i j
    have b2 := ed_le (lt w) (lt v) i (j + 1)
    have b3 := ed_le (lt w) (lt v) (i + 1) j
    have c1 := lt_le w i
    have c2 := lt_le v j
    obtain ⟨⟨k14, k15, k16, k17, k18⟩, ⟨l1, l2, l3, l4⟩, ⟨f1, f2, f3, f4⟩, d⟩ := id mo
    obtain ⟨kr, kq, lr, lq, ne, ir, iq⟩ := mo.row
    unfold kX2_byEdit_37
    have e2 : j + 1 - 1 = j := by omega
    have e3 : i + 1 - 1 = i := by omega
    rw [if_neg (nI_nlt (by omega) (by omega)), e1, pk_sub (by omega), pk_sub (by omega), e2, e3, gfr_ok k14, bind_s, f3, ald_ok kr (by omega) (by omega), bind_s, gfr_ok k14, bind_s, f1, ald_ok k15 (by omega) (by omega), bind_s, gfr_ok k14, bind_s, f2, ald_ok k16 (by omega) (by omega), bind_s, h15 i (by omega), h16 j (by omega), h3 j (by omega)]
    have core : ∀ c : Nat, c ≤ 1 → c = (if lt w i = lt v j then 0 else 1) → ∃ σ', kX2_byEdit_77 k22 (kX2_byEdit_37 k22 F) 14 (nI (cl w)) (nI M) (nI (i + 1)) (nI (j + 1)) (nI (ed (lt w) (lt v) i j)) (nI c) σ = k22 14 (nI (cl w)) (nI M) (nI (i + 2)) σ' ∧ Mr σ σ' ∧ Mo σ' q r ∧ (∀ k, k < 6 → σ'.ar 15 k = nI (lt w k)) ∧ (∀ k, k < 6 → σ'.ar 16 k = nI (lt v k)) ∧ (∀ k, k ≤ M → σ'.ar q k = nI (ed (lt w) (lt v) (i + 1) k)) := by
      intro c hc he
      have last : ∀ y : Nat, y = ed (lt w) (lt v) (i + 1) (j + 1) → ∃ σ', kX2_byEdit_148 k22 (kX2_byEdit_37 k22 F) 14 (nI (cl w)) (nI M) (nI (i + 1)) (nI (j + 1)) q (nI (j + 1)) (nI y) σ = k22 14 (nI (cl w)) (nI M) (nI (i + 2)) σ' ∧ Mr σ σ' ∧ Mo σ' q r ∧ (∀ k, k < 6 → σ'.ar 15 k = nI (lt w k)) ∧ (∀ k, k < 6 → σ'.ar 16 k = nI (lt v k)) ∧ (∀ k, k ≤ M → σ'.ar q k = nI (ed (lt w) (lt v) (i + 1) k)) := by
        intro y hy
        unfold kX2_byEdit_148
        rw [ast_ok kq (by omega) (by omega), bind_s, nI_1, sar_saw]
        obtain ⟨σ', g1, g2, g3, g4⟩ := kX2_byEdit_37_eq (k22 := k22) hi hM m F (j + 1) (saw σ q (upd (σ.ar q) (j + 1) (nI y))) (by omega) (by omega) mo.saw (fun k hk => by rw [ar_saw_ne (by omega)]; exact h15 k hk) (fun k hk => by rw [ar_saw_ne (by omega)]; exact h16 k hk) (fun k hk => by rw [ar_saw_ne ne]; exact h3 k hk) (fun k hk => by
          rw [ar_saw]
          by_cases z : k = j + 1
          · rw [z, upd_s, hy]
          · rw [upd_n z]; exact h2 k (by omega))
        exact ⟨σ', g1, (Mr.saw (by omega)).trans g2, g3, g4⟩
      have next : ∀ y : Nat, y = min (ed (lt w) (lt v) i j + c) (ed (lt w) (lt v) i (j + 1) + 1) → ∃ σ', kX2_byEdit_108 k22 (kX2_byEdit_37 k22 F) 14 (nI (cl w)) (nI M) (nI (i + 1)) (nI (j + 1)) (nI y) σ = k22 14 (nI (cl w)) (nI M) (nI (i + 2)) σ' ∧ Mr σ σ' ∧ Mo σ' q r ∧ (∀ k, k < 6 → σ'.ar 15 k = nI (lt w k)) ∧ (∀ k, k < 6 → σ'.ar 16 k = nI (lt v k)) ∧ (∀ k, k ≤ M → σ'.ar q k = nI (ed (lt w) (lt v) (i + 1) k)) := by
        intro y hy
        unfold kX2_byEdit_108
        have r1 : gfr σ 12 203 14 = some q := by rw [gfr_ok k14, f4]
        have r2 : ald σ 1 q (nI j) = some (nI (ed (lt w) (lt v) (i + 1) j)) := by rw [ald_ok kq (by omega) (by omega), h2 j (by omega)]
        rw [e1, pk_sub (by omega), e2]
        simp only [r1, r2, bind_s, nI_add]
        have ev : ed (lt w) (lt v) (i + 1) (j + 1) = min (ed (lt w) (lt v) i j + c) (min (ed (lt w) (lt v) i (j + 1)) (ed (lt w) (lt v) (i + 1) j) + 1) := by rw [ed_ss, he]
        by_cases z : y ≤ ed (lt w) (lt v) (i + 1) j + 1
        · rw [if_pos (nI_le z (by omega))]
          exact last y (by omega)
        · rw [if_neg (nI_ge (by omega) (by omega))]
          exact last _ (by omega)
      unfold kX2_byEdit_77
      have r1 : gfr σ 12 202 14 = some r := by rw [gfr_ok k14, f3]
      have r2 : ald σ 1 r (nI (j + 1)) = some (nI (ed (lt w) (lt v) i (j + 1))) := by rw [ald_ok kr (by omega) (by omega), h3 (j + 1) (by omega)]
      simp only [r1, r2, bind_s, nI_add, nI_1]
      by_cases z : ed (lt w) (lt v) i j + c ≤ ed (lt w) (lt v) i (j + 1) + 1
      · rw [if_pos (nI_le z (by omega))]
        exact next _ (by omega)
      · rw [if_neg (nI_ge (by omega) (by omega))]
        exact next _ (by omega)
    by_cases z : lt w i = lt v j
    · rw [if_pos (by rw [z])]
      exact core 0 (by omega) (by rw [if_pos z])
    · rw [if_neg (fun y => z ((nI_eq (by omega) (by omega)).mp y))]
      exact core 1 (by omega) (by rw [if_neg z])
theorem kX2_byEdit_22_eq {w v M : Nat} (hM : M = cl v) : ∀ (m F i r q : Nat) (σ : Hp), m < F → i + m = cl w → Mo σ r q → (∀ k, k < 6 → σ.ar 15 k = nI (lt w k)) → (∀ k, k < 6 → σ.ar 16 k = nI (lt v k)) →
    (∀ k, k ≤ M → σ.ar r k = nI (ed (lt w) (lt v) i k)) →
    ∃ σ' r' q', kX2_byEdit_22 F 14 (nI (cl w)) (nI M) (nI (i + 1)) σ = some (nI (ed (lt w) (lt v) (cl w) M), σ') ∧ Mr σ σ' ∧ Mo σ' r' q'
  | m, 0, _, _, _, _, h, _, _, _, _, _ => absurd h (Nat.not_lt_zero m)
  | 0, F + 1, i, r, q, σ, _, hj, mo, h15, h16, h2 => by
    have a1 := cl_le v
    have a2 := cl_le w
    obtain ⟨⟨k14, k15, k16, k17, k18⟩, ⟨l1, l2, l3, l4⟩, ⟨f1, f2, f3, f4⟩, d⟩ := id mo
    obtain ⟨kr, kq, lr, lq, ne, ir, iq⟩ := mo.row
    unfold kX2_byEdit_22
    have e6 : (6 : Int32) = nI 6 := rfl
    rw [if_pos (nI_lt (by omega) (by omega)), if_neg (nI_pos (by omega)), e6, if_neg (nI_nlt (by omega) (by omega)), gfr_ok k14, bind_s, f3, ald_ok kr (by omega) (by omega), bind_s, h2 M (by omega)]
    have : i = cl w := by omega
    rw [this]
    exact ⟨σ, r, q, rfl, Mr.rfl, mo⟩
  | m + 1, F + 1, i, r, q, σ, hF, hj, mo, h15, h16, h2 => by
    have a1 := cl_le v
    have a2 := cl_le w
    obtain ⟨⟨k14, k15, k16, k17, k18⟩, ⟨l1, l2, l3, l4⟩, ⟨f1, f2, f3, f4⟩, d⟩ := id mo
    obtain ⟨kr, kq, lr, lq, ne, ir, iq⟩ := mo.row
    unfold kX2_byEdit_22
    have e0 : (0 : Int32) = nI 0 := rfl
    have e1 : (1 : Int32) = nI (0 + 1) := rfl
    rw [if_neg (nI_nlt (by omega) (by omega)), gfr_ok k14, bind_s, f4, e0, ast_ok kq (by omega) (by omega), bind_s, e1, sar_saw]
    obtain ⟨σ', g1, g2, g3, g4, g5, g6⟩ := kX2_byEdit_37_eq (k22 := kX2_byEdit_22 F) (show i < cl w by omega) hM (r := r) (q := q) M FU 0 (saw σ q (upd (σ.ar q) 0 (nI (i + 1)))) FU_gt (by omega) mo.saw (fun k hk => by rw [ar_saw_ne (by omega)]; exact h15 k hk) (fun k hk => by rw [ar_saw_ne (by omega)]; exact h16 k hk) (fun k hk => by rw [ar_saw_ne ne]; exact h2 k hk) (fun k hk => by
      have : k = 0 := by omega
      subst this
      rw [ar_saw, upd_s]; rfl)
    obtain ⟨σ'', r', q', g7, g8, g9⟩ := kX2_byEdit_22_eq hM m F (i + 1) q r σ' (by omega) (by omega) g3 g4 g5 g6
    exact ⟨σ'', r', q', g1.trans g7, ((Mr.saw (by omega)).trans g2).trans g8, g9⟩
theorem kX2_byEdit_2_eq {w v M : Nat} (hM : M = cl v) : ∀ (m F j r q : Nat) (σ : Hp), m < F → j + m = M + 1 → Mo σ r q → (∀ k, k < 6 → σ.ar 15 k = nI (lt w k)) → (∀ k, k < 6 → σ.ar 16 k = nI (lt v k)) →
    (∀ k, k < j → σ.ar r k = nI k) →
    ∃ σ' r' q', kX2_byEdit_2 F 14 (nI (cl w)) (nI M) (nI j) σ = some (nI (ed (lt w) (lt v) (cl w) M), σ') ∧ Mr σ σ' ∧ Mo σ' r' q'
  | m, 0, _, _, _, _, h, _, _, _, _, _ => absurd h (Nat.not_lt_zero m)
  | 0, F + 1, j, r, q, σ, _, hj, mo, h15, h16, h2 => by
    have a1 := cl_le v
    have a2 := cl_le w
    unfold kX2_byEdit_2
    have e1 : (1 : Int32) = nI (0 + 1) := rfl
    rw [if_pos (nI_lt (by omega) (by omega)), e1]
    exact kX2_byEdit_22_eq hM (cl w) FU 0 r q σ FU_gt (by omega) mo h15 h16 (fun k hk => by rw [h2 k (by omega)]; rfl)
  | m + 1, F + 1, j, r, q, σ, hF, hj, mo, h15, h16, h2 => by
    have a1 := cl_le v
    obtain ⟨⟨k14, k15, k16, k17, k18⟩, ⟨l1, l2, l3, l4⟩, ⟨f1, f2, f3, f4⟩, d⟩ := id mo
    obtain ⟨kr, kq, lr, lq, ne, ir, iq⟩ := mo.row
    unfold kX2_byEdit_2
    rw [if_neg (nI_nlt (by omega) (by omega)), gfr_ok k14, bind_s, f3, ast_ok kr (by omega) (by omega), bind_s, nI_1, sar_saw]
    obtain ⟨σ', r', q', g1, g2, g3⟩ := kX2_byEdit_2_eq hM m F (j + 1) r q (saw σ r (upd (σ.ar r) j (nI j))) (by omega) (by omega) mo.saw (fun k hk => by rw [ar_saw_ne (by omega)]; exact h15 k hk) (fun k hk => by rw [ar_saw_ne (by omega)]; exact h16 k hk) (fun k hk => by
      rw [ar_saw]
      by_cases z : k = j
      · rw [z, upd_s]
      · rw [upd_n z]; exact h2 k (by omega))
    exact ⟨σ', r', q', g1, (Mr.saw (by omega)).trans g2, g3⟩
theorem kX2_byPlace_4_eq {w v r q : Nat} {σ : Hp} (mo : Mo σ r q) (h15 : ∀ k, k < 6 → σ.ar 15 k = nI (lt w k)) (h16 : ∀ k, k < 6 → σ.ar 16 k = nI (lt v k)) : ∀ (m F i a : Nat), m < F → i + m = 6 → kX2_byPlace_4 σ F 14 (nI a) (nI i) = some (nI (a + sm (pln (lt w) (lt v)) m i))
  | m, 0, _, _, h, _ => absurd h (Nat.not_lt_zero m)
  | 0, F + 1, i, a, _, hi => by
    unfold kX2_byPlace_4
    have : i = 6 := by omega
    subst this
    rw [if_pos (by decide)]
    rfl
  | m + 1, F + 1, i, a, hF, hi => by
    obtain ⟨⟨k14, k15, k16, k17, k18⟩, ⟨l1, l2, l3, l4⟩, ⟨f1, f2, f3, f4⟩, d⟩ := id mo
    have c1 := lt_le w i
    have c2 := lt_le v i
    have e6 : (6 : Int32) = nI 6 := rfl
    unfold kX2_byPlace_4 sm
    rw [e6, if_neg (nI_ge (by omega) (by omega)), gfr_ok k14, bind_s, f1, ald_ok k15 (by omega) (by omega), bind_s, gfr_ok k14, bind_s, f2, ald_ok k16 (by omega) (by omega), bind_s, h15 i (by omega), h16 i (by omega)]
    unfold kX2_byPlace_31
    by_cases z : lt w i = lt v i
    · have e0 : (0 : Int32) = nI 0 := rfl
      rw [if_pos (by rw [z]), e0, nI_add, nI_1, kX2_byPlace_4_eq mo h15 h16 m F (i + 1) (a + 0) (by omega) (by omega)]
      unfold pln
      rw [if_pos z]
      congr 2
      omega
    · have e1 : (1 : Int32) = nI 1 := rfl
      rw [if_neg (fun y => z ((nI_eq (by omega) (by omega)).mp y)), e1, nI_add, nI_add, kX2_byPlace_4_eq mo h15 h16 m F (i + 1) (a + 1) (by omega) (by omega)]
      unfold pln
      rw [if_neg z]
      congr 2
      omega
theorem kX2_bySum_4_eq {w v r q : Nat} {σ : Hp} (mo : Mo σ r q) (h15 : ∀ k, k < 6 → σ.ar 15 k = nI (lt w k)) (h16 : ∀ k, k < 6 → σ.ar 16 k = nI (lt v k)) : ∀ (m F i a : Nat), m < F → i + m = 6 → kX2_bySum_4 σ F 14 (nI a) (nI i) = some (nI (a + sm (sbn (lt w) (lt v)) m i))
  | m, 0, _, _, h, _ => absurd h (Nat.not_lt_zero m)
  | 0, F + 1, i, a, _, hi => by
    unfold kX2_bySum_4
    have : i = 6 := by omega
    subst this
    rw [if_pos (by decide)]
    rfl
  | m + 1, F + 1, i, a, hF, hi => by
    obtain ⟨⟨k14, k15, k16, k17, k18⟩, ⟨l1, l2, l3, l4⟩, ⟨f1, f2, f3, f4⟩, d⟩ := id mo
    have c1 := lt_le w i
    have c2 := lt_le v i
    have e6 : (6 : Int32) = nI 6 := rfl
    unfold kX2_bySum_4 sm
    have r1 : gfr σ 12 200 14 = some 15 := by rw [gfr_ok k14, f1]
    have r2 : gfr σ 12 201 14 = some 16 := by rw [gfr_ok k14, f2]
    have r3 : ald σ 1 15 (nI i) = some (nI (lt w i)) := by rw [ald_ok k15 (by omega) (by omega), h15 i (by omega)]
    have r4 : ald σ 1 16 (nI i) = some (nI (lt v i)) := by rw [ald_ok k16 (by omega) (by omega), h16 i (by omega)]
    rw [e6, if_neg (nI_ge (by omega) (by omega))]
    simp only [r1, r2, r3, r4, bind_s]
    unfold kX2_bySum_55
    by_cases z : lt v i ≤ lt w i
    · rw [if_pos (nI_le z (by omega)), pk_sub z, nI_add, nI_1, kX2_bySum_4_eq mo h15 h16 m F (i + 1) _ (by omega) (by omega)]
      unfold sbn
      congr 2
      omega
    · rw [if_neg (nI_ge (by omega) (by omega)), pk_sub (by omega), nI_add, nI_1, kX2_bySum_4_eq mo h15 h16 m F (i + 1) _ (by omega) (by omega)]
      unfold sbn
      congr 2
      omega
theorem kX2_byHead_2_eq {w v r q : Nat} {σ : Hp} (mo : Mo σ r q) (h15 : ∀ k, k < 6 → σ.ar 15 k = nI (lt w k)) (h16 : ∀ k, k < 6 → σ.ar 16 k = nI (lt v k)) : ∀ (m F i : Nat), m < F → i + m = 6 → kX2_byHead_2 σ F 14 (nI i) = some (nI (match unl (lt w) (lt v) m i with | some n => 7 - n | none => 0))
  | m, 0, _, h, _ => absurd h (Nat.not_lt_zero m)
  | 0, F + 1, i, _, hi => by
    unfold kX2_byHead_2
    have : i = 6 := by omega
    subst this
    rw [if_pos (by decide)]
    rfl
  | m + 1, F + 1, i, hF, hi => by
    obtain ⟨⟨k14, k15, k16, k17, k18⟩, ⟨l1, l2, l3, l4⟩, ⟨f1, f2, f3, f4⟩, d⟩ := id mo
    have c1 := lt_le w i
    have c2 := lt_le v i
    have e6 : (6 : Int32) = nI 6 := rfl
    have e7 : (7 : Int32) = nI 7 := rfl
    unfold kX2_byHead_2 unl
    rw [e6, if_neg (nI_ge (by omega) (by omega)), gfr_ok k14, bind_s, f1, ald_ok k15 (by omega) (by omega), bind_s, gfr_ok k14, bind_s, f2, ald_ok k16 (by omega) (by omega), bind_s, h15 i (by omega), h16 i (by omega)]
    by_cases z : lt w i = lt v i
    · rw [if_pos (by rw [z]), nI_1, kX2_byHead_2_eq mo h15 h16 m F (i + 1) (by omega) (by omega), if_pos z]
    · rw [if_neg (fun y => z ((nI_eq (by omega) (by omega)).mp y)), if_neg z, e7, pk_sub (by omega)]
theorem kX2_between_eq {σ : Hp} {r q μ w v : Nat} (mo : Mo σ r q) (hw : w < 531441) (hv : v < 531441) (hμ : μ < 4) : ∃ σ' r' q', kX2_between σ 14 (nI μ) (nI w) (nI v) = some (nI (apart μ w v), σ') ∧ Mr σ σ' ∧ Mo σ' r' q' := by
  unfold kX2_between apart
  by_cases z : w = v
  · rw [z, if_pos rfl, if_pos rfl]
    exact ⟨σ, r, q, rfl, Mr.rfl, mo⟩
  rw [if_neg (fun y => z ((nI_eq (by omega) (by omega)).mp y)), if_neg z]
  obtain ⟨⟨k14, k15, k16, k17, k18⟩, ⟨l1, l2, l3, l4⟩, ⟨f1, f2, f3, f4⟩, d⟩ := id mo
  obtain ⟨f, g1, g2⟩ := kX2_spellOut_eq (σ := σ) hw k15 l1
  rw [gfr_ok k14, bind_s, f1, g1, bd2_s, gfr_ok (show (saw σ 15 f).kd 14 = 12 from k14), bind_s]
  have f2' : (saw σ 15 f).fr 201 14 = 16 := f2
  obtain ⟨g, g3, g4⟩ := kX2_spellOut_eq (σ := saw σ 15 f) hv k16 l2
  rw [f2', g3, bd2_s]
  have mo2 : Mo (saw (saw σ 15 f) 16 g) r q := mo
  have mr2 : Mr σ (saw (saw σ 15 f) 16 g) := (Mr.saw (by decide)).trans (Mr.saw (by decide))
  have h15 : ∀ k, k < 6 → (saw (saw σ 15 f) 16 g).ar 15 k = nI (lt w k) := fun k hk => by rw [ar_saw_ne (by decide), ar_saw]; exact g2 k hk
  have h16 : ∀ k, k < 6 → (saw (saw σ 15 f) 16 g).ar 16 k = nI (lt v k) := fun k hk => by rw [ar_saw]; exact g4 k hk
  generalize saw (saw σ 15 f) 16 g = σ2 at mo2 mr2 h15 h16
  have k2 : σ2.kd 14 = 12 := mo2.1.1
  have hcase : μ = 0 ∨ μ = 1 ∨ μ = 2 ∨ μ = 3 := by omega
  have e0 : (0 : Int32) = nI 0 := rfl
  rcases hcase with rfl | rfl | rfl | rfl
  · rw [if_pos (by decide), ckd_ok k2, if_pos rfl]
    unfold kX2_byEdit
    have a1 := cl_le v
    obtain ⟨σ', r', q', e1, e2, e3⟩ := kX2_byEdit_2_eq (w := w) (v := v) rfl (cl v + 1) FU 0 r q σ2 FU_gt (by omega) mo2 h15 h16 (fun k hk => by omega)
    rw [e0, e1, bd2_s]
    exact ⟨σ', r', q', rfl, mr2.trans e2, e3⟩
  · rw [if_neg (by decide), if_pos (by decide), ckd_ok k2, if_neg (by decide), if_pos rfl]
    unfold kX2_byPlace
    rw [e0, kX2_byPlace_4_eq mo2 h15 h16 6 FU 0 0 (by decide) rfl, bind_s, Nat.zero_add]
    exact ⟨σ2, r, q, rfl, mr2, mo2⟩
  · rw [if_neg (by decide), if_neg (by decide), if_pos (by decide), ckd_ok k2, if_neg (by decide), if_neg (by decide), if_pos rfl]
    unfold kX2_bySum
    rw [e0, kX2_bySum_4_eq mo2 h15 h16 6 FU 0 0 (by decide) rfl, bind_s, Nat.zero_add]
    exact ⟨σ2, r, q, rfl, mr2, mo2⟩
  · rw [if_neg (by decide), if_neg (by decide), if_neg (by decide), ckd_ok k2, if_neg (by decide), if_neg (by decide), if_neg (by decide)]
    unfold kX2_byHead
    rw [e0, kX2_byHead_2_eq mo2 h15 h16 6 FU 0 (by decide) rfl, bind_s]
    exact ⟨σ2, r, q, rfl, mr2, mo2⟩
