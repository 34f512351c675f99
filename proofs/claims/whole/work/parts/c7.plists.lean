section PLISTS
variable {own : Nat → Nat} {K SS IS : List Nat} {EK ES EI : Nat} {eo : Nat → Nat} {lo : Nat → List Nat} {vo : Nat → Vt}
theorem c_unI {gS : Nat → Bool} (ow : Own own) : ∀ (m F n : Nat) (σ : Hp) (gX : Nat → Bool), m < F → n + m = IS.length → Wn σ → PPg own K SS IS EK ES EI eo lo vo gS gX σ → (∀ i s : Nat, i < n → IS[i]? = some s → gX s = false) → (∀ s ∈ K, gX s = true → s ∈ IS) → ∃ σ' gX', kX4_setImage_10 F 38 (nI n) σ = (kJx4a65c_clear_da8c8 σ' 41).bind (fun σ14 => kX4_setImage_51 FU 38 0 σ14) ∧ PPg own K SS IS EK ES EI eo lo vo gS gX' σ' ∧ (∀ s ∈ K, gX' s = false) ∧ Kf own σ σ' ∧ Wn σ' ∧ σ'.nx = σ.nx ∧ σ'.us = σ.us ∧ σ'.ln = σ.ln
  | m, 0, _, _, _, h, _, _, _, _, _ => absurd h (Nat.not_lt_zero m)
  | 0, F + 1, n, σ, gX, _, hn, wn, h, hf, hs => by
    have kXx : gfr σ 14 402 38 = some 41 := by rw [gfr_ok h.1.1, h.1.2.2.2.1]
    have b := h.2.1.2.2
    refine ⟨σ, gX, ?_, h, fun s sK => ?_, Df.rfl, wn, rfl, rfl, rfl⟩
    · rw [kX4_setImage_10.eq_2, kXx, bind_s, b.c, b.size, bind_s, if_pos (nI_le (by omega) (by have := b.1.2.2.2; omega)), bind_s, b.c]
    · cases q : gX s with
      | false => rfl
      | true =>
        obtain ⟨i, hi⟩ := List.mem_iff_getElem?.mp (hs s sK q)
        have := (List.getElem?_eq_some_iff.mp hi).1
        rw [hf i s (by omega) hi] at q
        cases q
  | m + 1, F + 1, n, σ, gX, hF, hn, wn, h, hf, hs => by
    have kXx : gfr σ 14 402 38 = some 41 := by rw [gfr_ok h.1.1, h.1.2.2.2.1]
    have b := h.2.1.2.2
    have b1000 := b.1.2.2.2
    obtain ⟨s, hsn⟩ : ∃ s, IS[n]? = some s := ⟨_, List.getElem?_eq_getElem (by omega)⟩
    have sX := List.mem_of_getElem? hsn
    have sK : s ∈ K := h.2.2.2.1.2.2.1.2 s sX
    have e1 := (h.2.2.2.2.1 s (Or.inr sK)).1
    obtain ⟨m1, m2, m3⟩ := h.mI (b := false) ow sK
    have bf : bI (false = true) = 0 := rfl
    rw [bf] at m1 m2 m3
    obtain ⟨σ', gX', g1, g2, g3, g4, g5, g6, g7, g8⟩ := c_unI ow m F (n + 1) (sfi σ 712 s 0) (bup gX s false) (by omega) (by omega) wn m2 (fun i x hi hx => by
      by_cases z : x = s
      · rw [z, bup_s]
      · rw [bup_n z]
        refine hf i x ?_ hx
        have : i ≠ n := fun q => z (by rw [q, hsn] at hx; cases hx; rfl)
        omega) (fun x hx q => by
      by_cases z : x = s
      · rw [z]; exact sX
      · rw [bup_n z] at q; exact hs x hx q)
    refine ⟨σ', gX', ?_, g2, g3, m3.tr g4 (fun _ _ => rfl), g5, g6, g7, g8⟩
    rw [kX4_setImage_10.eq_2, kXx, bind_s, b.c, b.size, bind_s, if_neg (nI_ge (by omega) (by omega)), bind_s, b.c, b.at hsn, bind_s, ckc_ok e1.ks, m1, bind_s, nI_1]
    exact g1
theorem c_mkI {gS : Nat → Bool} (h20 : SS.length ≤ 20) : ∀ (m F n : Nat) (σ : Hp) (own : Nat → Nat) (XE : Nat) (gX : Nat → Bool), m < F → n + m = SS.length → Own own → Wn σ → 60 ≤ σ.nx → PPg own K SS (SS.take n) EK ES XE eo lo vo gS gX σ → (∀ s ∈ K, gX s = true ↔ s ∈ SS.take n) → σ.nx + (1600 - σ.ln XE) + 1 ≤ NXc → σ.us + 4 * (1600 - σ.ln XE) + 1600 ≤ UXc → ∃ σ' own' XE' gX', kX4_setImage_51 F 38 (nI n) σ = some σ' ∧ PPg own' K SS SS EK ES XE' eo lo vo gS gX' σ' ∧ (∀ s ∈ K, gX' s = true ↔ s ∈ SS) ∧ (∀ x, x < σ.nx → own' x = own x) ∧ Kf own σ σ' ∧ Wn σ' ∧ σ'.nx + (1600 - σ'.ln XE') ≤ σ.nx + (1600 - σ.ln XE) ∧ σ'.us + 4 * (1600 - σ'.ln XE') ≤ σ.us + 4 * (1600 - σ.ln XE)
  | m, 0, _, _, _, _, _, h, _, _, _, _, _, _, _, _ => absurd h (Nat.not_lt_zero m)
  | 0, F + 1, n, σ, own, XE, gX, _, hn, ow, wn, h60, h, hg, r1, r2 => by
    have kY : gfr σ 14 401 38 = some 40 := by rw [gfr_ok h.1.1, h.1.2.2.1]
    have b := h.2.1.2.1
    have tk : SS.take n = SS := List.take_of_length_le (by omega)
    rw [tk] at h hg
    refine ⟨σ, own, XE, gX, ?_, h, hg, fun _ _ => rfl, Df.rfl, wn, Nat.le_refl _, Nat.le_refl _⟩
    rw [kX4_setImage_51.eq_2, kY, bind_s, b.c, b.size, bind_s, if_pos (nI_le (by omega) (by omega))]
  | m + 1, F + 1, n, σ, own, XE, gX, hF, hn, ow, wn, h60, h, hg, r1, r2 => by
    have kY : gfr σ 14 401 38 = some 40 := by rw [gfr_ok h.1.1, h.1.2.2.1]
    have b := h.2.1.2.1
    obtain ⟨s, hsn⟩ : ∃ s, SS[n]? = some s := ⟨_, List.getElem?_eq_getElem (by omega)⟩
    have sY := List.mem_of_getElem? hsn
    have sK : s ∈ K := h.2.2.2.1.2.1.2 s sY
    have e1 := (h.2.2.2.2.1 s (Or.inr sK)).1
    obtain ⟨m1, m2, m3⟩ := h.mI (b := true) ow sK
    have bt : bI (true = true) = 1 := rfl
    rw [bt] at m1 m2 m3
    have kX5 : gfr (sfi σ 712 s 1) 14 402 38 = some 41 := by rw [gfr_ok m2.1.1, m2.1.2.2.2.1]
    have kY5 : gfr (sfi σ 712 s 1) 14 401 38 = some 40 := by rw [gfr_ok m2.1.1, m2.1.2.2.1]
    have b5 := m2.2.1.2.1
    have x5 := m2.2.1.2.2
    have e5 := (m2.2.2.2.2.1 s (Or.inr sK)).1
    have wn5 : Wn (sfi σ 712 s 1) := wn
    have tl : (SS.take n).length = n := by rw [List.length_take]; omega
    obtain ⟨σe, XE', n1, n2, n3, n4, n5, n6, n7⟩ := x5.add2 wn5 (a := s) e5.ks (by omega) r1 (by show σ.us + 1600 ≤ UXc; omega)
    have tk : SS.take n ++ [s] = SS.take (n + 1) := by rw [List.take_succ, hsn]; rfl
    rw [tk] at n2
    have ndY := h.2.2.2.1.2.1.1
    obtain ⟨p1, p2⟩ := m2.lI (σ' := σe) (X' := SS.take (n + 1)) (XE' := XE') ow wn5 n4 n2 n5 (ndY.sublist (List.take_sublist _ _)) (fun x hx => h.2.2.2.1.2.1.2 x (List.mem_of_mem_take hx))
    have nx1 : σ.nx ≤ σe.nx := n4.1
    obtain ⟨σ', own', XE2, gX', g1, g2, g3, g4, g5, g6, g7, g8⟩ := c_mkI h20 m F (n + 1) σe _ XE' (bup gX s true) (by omega) (by omega) (fun x hx => by
      show (if x < (sfi σ 712 s 1).nx then own x else 41) = _
      rw [if_pos (show x < (sfi σ 712 s 1).nx from show x < σ.nx by omega)]; exact ow x hx) n3 (by omega) p1 (fun x hx => by
      rw [← tk, List.mem_append, List.mem_singleton]
      by_cases z : x = s
      · rw [z, bup_s]; exact ⟨fun _ => Or.inr rfl, fun _ => rfl⟩
      · rw [bup_n z, hg x hx]; exact ⟨Or.inl, fun y => y.resolve_right z⟩) (by have n6 : σe.nx + (1600 - σe.ln XE') ≤ σ.nx + (1600 - σ.ln XE) := n6; omega) (by have n7 : σe.us + 4 * (1600 - σe.ln XE') ≤ σ.us + 4 * (1600 - σ.ln XE) := n7; omega)
    have ol : ∀ x, x < σ.nx → (if x < (sfi σ 712 s 1).nx then own x else 41) = own x := fun x hx => if_pos hx
    refine ⟨σ', own', XE2, gX', ?_, g2, g3, fun x hx => (g4 x (by omega)).trans (ol x hx), (m3.tr p2 (fun _ _ => rfl)).tr g5 ol, g6, by have n6 : σe.nx + (1600 - σe.ln XE') ≤ σ.nx + (1600 - σ.ln XE) := n6; omega, by have n7 : σe.us + 4 * (1600 - σe.ln XE') ≤ σ.us + 4 * (1600 - σ.ln XE) := n7; omega⟩
    rw [kX4_setImage_51.eq_2, kY, bind_s, b.c, b.size, bind_s, if_neg (nI_ge (by omega) (by omega)), bind_s, b.c, b.at hsn, bind_s, ckc_ok e1.ks, m1, bind_s, kX5, bind_s, kY5, bind_s, b5.c, b5.at hsn, bind_s, ckc_ok e5.ks, x5.c, n1, bd2_s, nI_1]
    exact g1
theorem c_unS {gI : Nat → Bool} (ow : Own own) : ∀ (m F n : Nat) (σ : Hp) (gX : Nat → Bool), m < F → n + m = SS.length → Wn σ → PPg own K SS IS EK ES EI eo lo vo gX gI σ → (∀ i s : Nat, i < n → SS[i]? = some s → gX s = false) → (∀ s ∈ K, gX s = true → s ∈ SS) → ∃ σ' gX', kX4_goBack_10 F 38 (nI n) σ = (kJx4a65c_clear_da8c8 σ' 40).bind (fun σ14 => kX4_goBack_51 FU 38 0 σ14) ∧ PPg own K SS IS EK ES EI eo lo vo gX' gI σ' ∧ (∀ s ∈ K, gX' s = false) ∧ Kf own σ σ' ∧ Wn σ' ∧ σ'.nx = σ.nx ∧ σ'.us = σ.us ∧ σ'.ln = σ.ln
  | m, 0, _, _, _, h, _, _, _, _, _ => absurd h (Nat.not_lt_zero m)
  | 0, F + 1, n, σ, gX, _, hn, wn, h, hf, hs => by
    have kXx : gfr σ 14 401 38 = some 40 := by rw [gfr_ok h.1.1, h.1.2.2.1]
    have b := h.2.1.2.1
    refine ⟨σ, gX, ?_, h, fun s sK => ?_, Df.rfl, wn, rfl, rfl, rfl⟩
    · rw [kX4_goBack_10.eq_2, kXx, bind_s, b.c, b.size, bind_s, if_pos (nI_le (by omega) (by have := b.1.2.2.2; omega)), bind_s, b.c]
    · cases q : gX s with
      | false => rfl
      | true =>
        obtain ⟨i, hi⟩ := List.mem_iff_getElem?.mp (hs s sK q)
        have := (List.getElem?_eq_some_iff.mp hi).1
        rw [hf i s (by omega) hi] at q
        cases q
  | m + 1, F + 1, n, σ, gX, hF, hn, wn, h, hf, hs => by
    have kXx : gfr σ 14 401 38 = some 40 := by rw [gfr_ok h.1.1, h.1.2.2.1]
    have b := h.2.1.2.1
    have b1000 := b.1.2.2.2
    obtain ⟨s, hsn⟩ : ∃ s, SS[n]? = some s := ⟨_, List.getElem?_eq_getElem (by omega)⟩
    have sX := List.mem_of_getElem? hsn
    have sK : s ∈ K := h.2.2.2.1.2.1.2 s sX
    have e1 := (h.2.2.2.2.1 s (Or.inr sK)).1
    obtain ⟨m1, m2, m3⟩ := h.mS (b := false) ow sK
    have bf : bI (false = true) = 0 := rfl
    rw [bf] at m1 m2 m3
    obtain ⟨σ', gX', g1, g2, g3, g4, g5, g6, g7, g8⟩ := c_unS ow m F (n + 1) (sfi σ 711 s 0) (bup gX s false) (by omega) (by omega) wn m2 (fun i x hi hx => by
      by_cases z : x = s
      · rw [z, bup_s]
      · rw [bup_n z]
        refine hf i x ?_ hx
        have : i ≠ n := fun q => z (by rw [q, hsn] at hx; cases hx; rfl)
        omega) (fun x hx q => by
      by_cases z : x = s
      · rw [z]; exact sX
      · rw [bup_n z] at q; exact hs x hx q)
    refine ⟨σ', gX', ?_, g2, g3, m3.tr g4 (fun _ _ => rfl), g5, g6, g7, g8⟩
    rw [kX4_goBack_10.eq_2, kXx, bind_s, b.c, b.size, bind_s, if_neg (nI_ge (by omega) (by omega)), bind_s, b.c, b.at hsn, bind_s, ckc_ok e1.ks, m1, bind_s, nI_1]
    exact g1
theorem c_mkS {gI : Nat → Bool} (h20 : IS.length ≤ 20) : ∀ (m F n : Nat) (σ : Hp) (own : Nat → Nat) (XE : Nat) (gX : Nat → Bool), m < F → n + m = IS.length → Own own → Wn σ → 60 ≤ σ.nx → PPg own K (IS.take n) IS EK XE EI eo lo vo gX gI σ → (∀ s ∈ K, gX s = true ↔ s ∈ IS.take n) → σ.nx + (1600 - σ.ln XE) + 1 ≤ NXc → σ.us + 4 * (1600 - σ.ln XE) + 1600 ≤ UXc → ∃ σ' own' XE' gX', kX4_goBack_51 F 38 (nI n) σ = some σ' ∧ PPg own' K IS IS EK XE' EI eo lo vo gX' gI σ' ∧ (∀ s ∈ K, gX' s = true ↔ s ∈ IS) ∧ (∀ x, x < σ.nx → own' x = own x) ∧ Kf own σ σ' ∧ Wn σ' ∧ σ'.nx + (1600 - σ'.ln XE') ≤ σ.nx + (1600 - σ.ln XE) ∧ σ'.us + 4 * (1600 - σ'.ln XE') ≤ σ.us + 4 * (1600 - σ.ln XE)
  | m, 0, _, _, _, _, _, h, _, _, _, _, _, _, _, _ => absurd h (Nat.not_lt_zero m)
  | 0, F + 1, n, σ, own, XE, gX, _, hn, ow, wn, h60, h, hg, r1, r2 => by
    have kY : gfr σ 14 402 38 = some 41 := by rw [gfr_ok h.1.1, h.1.2.2.2.1]
    have b := h.2.1.2.2
    have tk : IS.take n = IS := List.take_of_length_le (by omega)
    rw [tk] at h hg
    refine ⟨σ, own, XE, gX, ?_, h, hg, fun _ _ => rfl, Df.rfl, wn, Nat.le_refl _, Nat.le_refl _⟩
    rw [kX4_goBack_51.eq_2, kY, bind_s, b.c, b.size, bind_s, if_pos (nI_le (by omega) (by omega))]
  | m + 1, F + 1, n, σ, own, XE, gX, hF, hn, ow, wn, h60, h, hg, r1, r2 => by
    have kY : gfr σ 14 402 38 = some 41 := by rw [gfr_ok h.1.1, h.1.2.2.2.1]
    have b := h.2.1.2.2
    obtain ⟨s, hsn⟩ : ∃ s, IS[n]? = some s := ⟨_, List.getElem?_eq_getElem (by omega)⟩
    have sY := List.mem_of_getElem? hsn
    have sK : s ∈ K := h.2.2.2.1.2.2.1.2 s sY
    have e1 := (h.2.2.2.2.1 s (Or.inr sK)).1
    obtain ⟨m1, m2, m3⟩ := h.mS (b := true) ow sK
    have bt : bI (true = true) = 1 := rfl
    rw [bt] at m1 m2 m3
    have kX5 : gfr (sfi σ 711 s 1) 14 401 38 = some 40 := by rw [gfr_ok m2.1.1, m2.1.2.2.1]
    have kY5 : gfr (sfi σ 711 s 1) 14 402 38 = some 41 := by rw [gfr_ok m2.1.1, m2.1.2.2.2.1]
    have b5 := m2.2.1.2.2
    have x5 := m2.2.1.2.1
    have e5 := (m2.2.2.2.2.1 s (Or.inr sK)).1
    have wn5 : Wn (sfi σ 711 s 1) := wn
    have tl : (IS.take n).length = n := by rw [List.length_take]; omega
    obtain ⟨σe, XE', n1, n2, n3, n4, n5, n6, n7⟩ := x5.add2 wn5 (a := s) e5.ks (by omega) r1 (by show σ.us + 1600 ≤ UXc; omega)
    have tk : IS.take n ++ [s] = IS.take (n + 1) := by rw [List.take_succ, hsn]; rfl
    rw [tk] at n2
    have ndY := h.2.2.2.1.2.2.1.1
    obtain ⟨p1, p2⟩ := m2.lS (σ' := σe) (X' := IS.take (n + 1)) (XE' := XE') ow wn5 n4 n2 n5 (ndY.sublist (List.take_sublist _ _)) (fun x hx => h.2.2.2.1.2.2.1.2 x (List.mem_of_mem_take hx))
    have nx1 : σ.nx ≤ σe.nx := n4.1
    obtain ⟨σ', own', XE2, gX', g1, g2, g3, g4, g5, g6, g7, g8⟩ := c_mkS h20 m F (n + 1) σe _ XE' (bup gX s true) (by omega) (by omega) (fun x hx => by
      show (if x < (sfi σ 711 s 1).nx then own x else 40) = _
      rw [if_pos (show x < (sfi σ 711 s 1).nx from show x < σ.nx by omega)]; exact ow x hx) n3 (by omega) p1 (fun x hx => by
      rw [← tk, List.mem_append, List.mem_singleton]
      by_cases z : x = s
      · rw [z, bup_s]; exact ⟨fun _ => Or.inr rfl, fun _ => rfl⟩
      · rw [bup_n z, hg x hx]; exact ⟨Or.inl, fun y => y.resolve_right z⟩) (by have n6 : σe.nx + (1600 - σe.ln XE') ≤ σ.nx + (1600 - σ.ln XE) := n6; omega) (by have n7 : σe.us + 4 * (1600 - σe.ln XE') ≤ σ.us + 4 * (1600 - σ.ln XE) := n7; omega)
    have ol : ∀ x, x < σ.nx → (if x < (sfi σ 711 s 1).nx then own x else 40) = own x := fun x hx => if_pos hx
    refine ⟨σ', own', XE2, gX', ?_, g2, g3, fun x hx => (g4 x (by omega)).trans (ol x hx), (m3.tr p2 (fun _ _ => rfl)).tr g5 ol, g6, by have n6 : σe.nx + (1600 - σe.ln XE') ≤ σ.nx + (1600 - σ.ln XE) := n6; omega, by have n7 : σe.us + 4 * (1600 - σe.ln XE') ≤ σ.us + 4 * (1600 - σ.ln XE) := n7; omega⟩
    rw [kX4_goBack_51.eq_2, kY, bind_s, b.c, b.size, bind_s, if_neg (nI_ge (by omega) (by omega)), bind_s, b.c, b.at hsn, bind_s, ckc_ok e1.ks, m1, bind_s, kX5, bind_s, kY5, bind_s, b5.c, b5.at hsn, bind_s, ckc_ok e5.ks, x5.c, n1, bd2_s, nI_1]
    exact g1
end PLISTS
