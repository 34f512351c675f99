section FO2
variable {σ σ1 σ2 : Hp} {V V0 : Vt}
theorem Mo.dn {A : Nat → Prop} {r q : Nat} (h : Mo σ r q) (d : Dn A σ σ1) : Mo σ1 r q := by
  unfold Mo at *
  rw [d.1.1, d.1.2.1, d.1.2.2.1]
  exact h
/-- what learning keeps -/
def Lq (σ s : Hp) : Prop := Dg σ s ∧ Fk s ∧ (∃ r q, Mo s r q) ∧ s.ar 21 = σ.ar 21 ∧ s.ar 22 = σ.ar 22 ∧ s.fi 103 19 = σ.fi 103 19 ∧ s.fi 105 19 = σ.fi 105 19
/-- done up to a place -/
def Cd (c : Nat → Int32) (W : Nat → Nat) (M a b : Nat) : Prop := ∀ x y, x < 40 → y < 40 → W x ≠ 0 → W y ≠ 0 → (max x y < a ∨ (max x y = a ∧ min x y < b)) → c (x * 40 + y) = nI (apart M (W x) (W y))
set_option maxHeartbeats 1000000 in
theorem c_learn (fk : Fk σ) (mo : ∃ r q, Mo σ r q) (f1 : σ.fi 103 19 = nI V.M) (vM : V.M < 4) (hv : ∀ t, t < 40 → V.W t = 0 ∨ isW (V.W t)) (f3 : ∀ t, t < 40 → σ.ar 21 t = nI (V.W t)) (cu : Cu (σ.ar 20) V.W V.M) : ∃ s, kX1_learnUnknown σ 19 = some s ∧ Lq σ s ∧ ∀ x y, x < 40 → y < 40 → V.W x ≠ 0 → V.W y ≠ 0 → s.ar 20 (x * 40 + y) = nI (apart V.M (V.W x) (V.W y)) := by
  have e0 : (0 : Int32) = nI 0 := rfl
  have w31 := fun t (ht : t < 40) => isW_31 (hv t ht)
  have gw : ∀ {s : Hp}, Lq σ s → ∀ t, t < 40 → ald s 1 21 (nI t) = some (nI (V.W t)) := fun {s} l t ht => by rw [l.2.1.gw ht, l.2.2.2.1, f3 t ht]
  unfold kX1_learnUnknown
  rw [e0]
  refine lp 40 (fun F a (s : Hp) => kX1_learnUnknown_2 F 19 (nI a) s) (fun a s => Lq σ s ∧ Cu (s.ar 20) V.W V.M ∧ Cd (s.ar 20) V.W V.M a 0) (fun r => ∃ s, r = some s ∧ Lq σ s ∧ ∀ x y, x < 40 → y < 40 → V.W x ≠ 0 → V.W y ≠ 0 → s.ar 20 (x * 40 + y) = nI (apart V.M (V.W x) (V.W y))) (fun F s J => ?_) (fun F a s ha J => Or.inl ?_) 40 0 FU σ (FU_gt (by omega)) rfl ⟨⟨Dg.rfl, fk, mo, rfl, rfl, rfl, rfl⟩, cu, fun x y _ _ _ _ q => by omega⟩
  · refine ⟨s, ?_, J.1, fun x y hx hy kx ky => J.2.2 x y hx hy kx ky (by omega)⟩
    show kX1_learnUnknown_2 (F + 1) 19 (nI 40) s = _
    rw [kX1_learnUnknown_2.eq_2, if_pos (by decide)]
  · obtain ⟨j1, j2, j3⟩ := J
    show ∃ a', _ ∧ kX1_learnUnknown_2 (F + 1) 19 (nI a) s = _
    rw [kX1_learnUnknown_2.eq_2, show (40 : Int32) = nI 40 from rfl, if_neg (nI_ge ha (by omega)), j1.2.1.w, bind_s, gw j1 a ha, bind_s]
    by_cases z : V.W a = 0
    · rw [if_pos (by rw [z]; rfl)]
      unfold kX1_learnUnknown_120
      rw [nI_1]
      refine ⟨s, ⟨j1, j2, fun x y hx hy kx ky q => j3 x y hx hy kx ky ?_⟩, rfl⟩
      have : x ≠ a := fun w => kx (w ▸ z)
      have : y ≠ a := fun w => ky (w ▸ z)
      omega
    · rw [if_neg (nI_ne0 (by omega) (w31 a ha)), e0]
      refine lp (a + 1) (fun F' b (u : Hp) => kX1_learnUnknown_22 (kX1_learnUnknown_2 F) F' 19 (nI a) (nI b) u) (fun b u => Lq σ u ∧ Cu (u.ar 20) V.W V.M ∧ Cd (u.ar 20) V.W V.M a b) (fun r => ∃ u, (Lq σ u ∧ Cu (u.ar 20) V.W V.M ∧ Cd (u.ar 20) V.W V.M (a + 1) 0) ∧ r = kX1_learnUnknown_2 F 19 (nI (a + 1)) u) (fun F' u J => ?_) (fun F' b u hb J => Or.inl ?_) (a + 1) 0 FU s (FU_gt (by omega)) (by omega) ⟨j1, j2, j3⟩
      · refine ⟨u, ⟨J.1, J.2.1, fun x y hx hy kx ky q => J.2.2 x y hx hy kx ky (by omega)⟩, ?_⟩
        show kX1_learnUnknown_22 (kX1_learnUnknown_2 F) (F' + 1) 19 (nI a) (nI (a + 1)) u = _
        rw [kX1_learnUnknown_22.eq_2, if_pos (nI_lt (by omega) (by omega))]
        unfold kX1_learnUnknown_120
        rw [nI_1]
      · obtain ⟨i1, i2, i3⟩ := J
        have fk1 := i1.2.1
        show ∃ a', _ ∧ kX1_learnUnknown_22 (kX1_learnUnknown_2 F) (F' + 1) 19 (nI a) (nI b) u = kX1_learnUnknown_22 (kX1_learnUnknown_2 F) F' 19 (nI a) (nI (b + 1)) a'
        rw [kX1_learnUnknown_22.eq_2, if_neg (nI_nlt (by omega) (by omega)), fk1.w, bind_s, gw i1 b (by omega), bind_s]
        have skip : Cd (u.ar 20) V.W V.M a (b + 1) → ∃ a', (Lq σ a' ∧ Cu (a'.ar 20) V.W V.M ∧ Cd (a'.ar 20) V.W V.M a (b + 1)) ∧ kX1_learnUnknown_114 (kX1_learnUnknown_2 F) (kX1_learnUnknown_22 (kX1_learnUnknown_2 F) F') 19 (nI a) (nI b) u = kX1_learnUnknown_22 (kX1_learnUnknown_2 F) F' 19 (nI a) (nI (b + 1)) a' := fun h => by
          unfold kX1_learnUnknown_114
          rw [nI_1]
          exact ⟨u, ⟨i1, i2, h⟩, rfl⟩
        by_cases y : V.W b = 0
        · rw [if_pos (by rw [y]; rfl)]
          refine skip (fun x y' hx hy kx ky q => i3 x y' hx hy kx ky ?_)
          have : x ≠ b := fun w => kx (w ▸ y)
          have : y' ≠ b := fun w => ky (w ▸ y)
          omega
        · rw [if_neg (nI_ne0 (by omega) (w31 b (by omega))), fk1.c, bind_s, show (40 : Int32) = nI 40 from rfl, pk_mul, nI_add, pk_mul, nI_add, fk1.get (by omega), bind_s, bind_s, fk1.get (by omega), bind_s]
          have wa := (hv a ha).resolve_left z
          have wb := (hv b (by omega)).resolve_left y
          have al := apart_le V.M (V.W a) (V.W b)
          -- both cells are set
          have two : ∃ a', (Lq σ a' ∧ Cu (a'.ar 20) V.W V.M ∧ Cd (a'.ar 20) V.W V.M a (b + 1)) ∧ kX1_learnUnknown_72 (kX1_learnUnknown_2 F) (kX1_learnUnknown_22 (kX1_learnUnknown_2 F) F') 19 (nI a) (nI b) (nI (a * 40 + b)) (nI (b * 40 + a)) u = kX1_learnUnknown_22 (kX1_learnUnknown_2 F) F' 19 (nI a) (nI (b + 1)) a' := by
            unfold kX1_learnUnknown_72 kX1_learnUnknown_114
            obtain ⟨r, q, m⟩ := i1.2.2.1
            obtain ⟨u1, r', q', g1, g2, g3⟩ := kX2_between_eq m (isW_lt wa).2 (isW_lt wb).2 vM
            have fk2 := fk1.mr g2
            have fk3 : Fk (saw u1 20 (upd (u1.ar 20) (a * 40 + b) (nI (apart V.M (V.W a) (V.W b))))) := fk2.dn Dc.up
            have k14 : u.kd 14 = 12 := m.1.1
            rw [fk1.c, bind_s, fk1.m, bind_s, gfi_ok fk1.1.1, i1.2.2.2.2.2.1, f1, bind_s, fk1.w, bind_s, gw i1 a ha, bind_s, bind_s, gw i1 b (by omega), bind_s, ckd_ok k14, g1, bd2_s, fk2.set (by omega), bind_s, fk3.c, bind_s, bind_s, fk3.get (by omega), bind_s, ar_saw, upd_s, fk3.set (by omega), bind_s, nI_1]
            have key : ∀ j, (saw (saw u1 20 (upd (u1.ar 20) (a * 40 + b) (nI (apart V.M (V.W a) (V.W b))))) 20 (upd ((saw u1 20 (upd (u1.ar 20) (a * 40 + b) (nI (apart V.M (V.W a) (V.W b))))).ar 20) (b * 40 + a) (nI (apart V.M (V.W a) (V.W b))))).ar 20 j = if j = b * 40 + a ∨ j = a * 40 + b then nI (apart V.M (V.W a) (V.W b)) else u.ar 20 j := fun j => by
              rw [ar_saw, ar_saw]
              by_cases y1 : j = b * 40 + a
              · rw [if_pos (Or.inl y1), y1]; exact upd_s
              · rw [upd_n y1]
                by_cases y2 : j = a * 40 + b
                · rw [if_pos (Or.inr y2), y2]; exact upd_s
                · rw [upd_n y2, if_neg (fun w => w.elim y1 y2), g2.2.1 20 (by omega)]
            have dn : Dn (fun x => x = 20) u1 (saw (saw u1 20 (upd (u1.ar 20) (a * 40 + b) (nI (apart V.M (V.W a) (V.W b))))) 20 (upd ((saw u1 20 (upd (u1.ar 20) (a * 40 + b) (nI (apart V.M (V.W a) (V.W b))))).ar 20) (b * 40 + a) (nI (apart V.M (V.W a) (V.W b))))) := Dn.tr Dc.up Dc.up
            have fx : ∀ x y', x < 40 → y' < 40 → (x * 40 + y' = b * 40 + a ∨ x * 40 + y' = a * 40 + b) → apart V.M (V.W a) (V.W b) = apart V.M (V.W x) (V.W y') := fun x y' hx hy q => by
              rcases q with q | q
              · obtain ⟨q1, q2⟩ := ix_inj hy ha q
                rw [q1, q2]; exact apart_sym _ _ _
              · obtain ⟨q1, q2⟩ := ix_inj hy (show b < 40 by omega) q
                rw [q1, q2]
            refine ⟨_, ⟨⟨(i1.1.tr (Dg.mr g2)).tr (Dg.dn (dn.mono (fun x q => by omega))), fk2.dn dn, ⟨r', q', g3.dn dn⟩, ?_, ?_, ?_, ?_⟩, fun x y' hx hy kx ky => ?_, fun x y' hx hy kx ky q => ?_⟩, rfl⟩
            · rw [Dc.r dn (by decide), g2.2.1 21 (by omega)]; exact i1.2.2.2.1
            · rw [Dc.r dn (by decide), g2.2.1 22 (by omega)]; exact i1.2.2.2.2.1
            · rw [(Dc.i dn).1, g2.1.2.2.1]; exact i1.2.2.2.2.2.1
            · rw [(Dc.i dn).2, g2.1.2.2.1]; exact i1.2.2.2.2.2.2
            · rw [key]
              by_cases w : x * 40 + y' = b * 40 + a ∨ x * 40 + y' = a * 40 + b
              · rw [if_pos w]; exact Or.inr (congrArg nI (fx x y' hx hy w))
              · rw [if_neg w]; exact i2 x y' hx hy kx ky
            · rw [key]
              by_cases w : x * 40 + y' = b * 40 + a ∨ x * 40 + y' = a * 40 + b
              · rw [if_pos w]; exact congrArg nI (fx x y' hx hy w)
              · rw [if_neg w]
                refine i3 x y' hx hy kx ky ?_
                have : ¬ (x = b ∧ y' = a) := fun v => w (Or.inl (by rw [v.1, v.2]))
                have : ¬ (x = a ∧ y' = b) := fun v => w (Or.inr (by rw [v.1, v.2]))
                omega
          by_cases c1 : u.ar 20 (a * 40 + b) = -1
          · rw [if_pos c1]; exact two
          · rw [if_neg c1]
            by_cases c2 : u.ar 20 (b * 40 + a) = -1
            · rw [if_pos c2]; exact two
            · rw [if_neg c2]
              refine skip (fun x y' hx hy kx ky q => ?_)
              by_cases w : (x = a ∧ y' = b) ∨ (x = b ∧ y' = a)
              · rcases w with ⟨rfl, rfl⟩ | ⟨rfl, rfl⟩
                · exact (i2 _ _ hx hy kx ky).resolve_left c1
                · exact (i2 _ _ hx hy kx ky).resolve_left c2
              · exact i3 x y' hx hy kx ky (by omega)
theorem tl_snoc {a b : Nat} {e : Ent} : ∀ (T : List Ent), tl (T ++ [e]) a b = match tl T a b with | some f => some f | none => if e.1 = a ∧ e.2.1 = b then some e.2.2 else none
  | [] => by
    show (if e.1 = a ∧ e.2.1 = b then some e.2.2 else tl [] a b) = _
    rfl
  | x :: T => by
    show (if x.1 = a ∧ x.2.1 = b then some x.2.2 else tl (T ++ [e]) a b) = match (if x.1 = a ∧ x.2.1 = b then some x.2.2 else tl T a b) with | some f => some f | none => _
    by_cases h : x.1 = a ∧ x.2.1 = b
    · rw [if_pos h, if_pos h]
    · rw [if_neg h, if_neg h]; exact tl_snoc T
set_option maxHeartbeats 1000000 in
/-- the kept distances are those of the state -/
theorem c_follow (fv : Fz σ V0) (hv0 : Vw V0) (hv : Vw V) (hd : Hd σ 3 V) (mo : ∃ r q, Mo σ r q) : ∃ s, kX1_follow σ 19 3 = some s ∧ Fz s V ∧ (∃ r q, Mo s r q) ∧ Dg σ s := by
  obtain ⟨⟨d1, d2, d3, d4, d5⟩, ⟨d6, d7, d8, d9⟩, ⟨d10, d11, d12, d13, d14⟩, ⟨d15, d16, d17, d18⟩, d19, d20⟩ := id hd
  have e0 : (0 : Int32) = nI 0 := rfl
  have l16 := hv.2.2.2.1
  obtain ⟨s1, g1, g2, g3, g4⟩ := c_follow2 fv hv0 d17 d1 hv.2.1
  have fk1 := fv.1.dn g2
  obtain ⟨s2, F, k1, k2, k3, k4⟩ := c_follow57 (V0 := V0) (V := V) fk1 (by rw [g2.1.1]; exact d1) (by rw [g2.1.1]; exact d2) (by rw [g2.1.2.1]; exact d6) (by rw [g2.1.2.2.1]; exact d10) (fun t ht => by rw [(g2.2 4 (by omega)).2]; exact d19 t ht) hv.1 hv0.1 (fun t ht => by rw [(g2.2 21 (by omega)).2]; exact fv.2.2.1 t ht) g4
  have fk2 := fk1.dn k2
  have mo2 : ∃ r q, Mo s2 r q := by
    obtain ⟨r, q, m⟩ := mo
    exact ⟨r, q, (m.dn g2).dn k2⟩
  have i2 : s2.fi 103 19 = nI V.M := by rw [(k2.2 19 (by omega)).1]; exact g3
  obtain ⟨s3, m1, m2, m3⟩ := c_learn fk2 mo2 i2 hv.2.1 hv.1 k3 k4
  have dg3 : Dg σ s3 := ((Dg.dn (g2.mono (fun x q => by omega))).tr (Dg.dn (k2.mono (fun x q => by omega)))).tr m2.1
  have fk3 := m2.2.1
  have k17 : s3.kd 3 = 17 := by rw [dg3.1.1]; exact d1
  have q3 := dg3.2 3 (by omega)
  rw [g1, k1, kX1_follow_57.eq_2, if_pos (by decide), ckd_ok fk2.1.1, m1, bind_s, gfi_ok k17, q3.1, d16, bind_s, pfi_ok fk3.1.1, bind_s, e0]
  generalize hs4 : sfi s3 105 19 (nI V.T.length) = s4
  have dn4 : Dn (fun x => x = 19) s3 s4 := by rw [← hs4]; exact Dn.xi rfl
  have dg4 : Dg σ s4 := dg3.tr (Dg.dn (dn4.mono (fun x q => by omega)))
  have fk4 := fk3.dn dn4
  have i105 : s4.fi 105 19 = nI V.T.length := by rw [← hs4, fi_sfi, if_pos ⟨rfl, rfl⟩]
  have i103 : s4.fi 103 19 = nI V.M := by rw [← hs4, fi_sfi, if_neg (by omega), m2.2.2.2.2.2.1]; exact i2
  refine lp V.T.length (fun F n (s : Hp) => kX1_follow_115 F 19 3 (nI n) s) (fun n s => Dn (fun x => x = 20 ∨ x = 22) s4 s ∧ (∀ (k : Nat) (e : Ent), k < n → V.T[k]? = some e → s.ar 22 k = nI (e.1 * 40 + e.2.1)) ∧ ∀ a b, hs V a → hs V b → s.ar 20 (a * 40 + b) = nI (match tl (V.T.take n) a b with | some f => f | none => apart V.M (V.W a) (V.W b))) (fun r => ∃ s, r = some s ∧ Fz s V ∧ (∃ r q, Mo s r q) ∧ Dg σ s) (fun F s J => ?_) (fun F n s hn J => Or.inl ?_) V.T.length 0 FU s4 (FU_gt (by omega)) (by omega) ⟨Dn.rfl, fun k e hk => absurd hk (Nat.not_lt_zero _), fun a b ha hb => ?_⟩
  · obtain ⟨j1, j2, j3⟩ := J
    have fk5 := fk4.dn j1
    refine ⟨s, ?_, ⟨fk5, ⟨by rw [(j1.2 19 (by omega)).1]; exact i103, by rw [(j1.2 19 (by omega)).1]; exact i105⟩, fun t ht => ?_, fun k e he => j2 k e (get_lt he) he, fun a b ha hb => ?_⟩, ?_, dg4.tr (Dg.dn (j1.mono (fun x q => by omega)))⟩
    · show kX1_follow_115 (F + 1) 19 3 (nI V.T.length) s = _
      rw [kX1_follow_115.eq_2, gfi_ok fk5.1.1, (j1.2 19 (by omega)).1, i105, bind_s, if_pos (nI_le (Nat.le_refl _) (by omega))]
    · rw [(j1.2 21 (by omega)).2, (dn4.2 21 (by omega)).2, m2.2.2.2.1]; exact k3 t ht
    · rw [j3 a b ha hb, List.take_length]
      rfl
    · obtain ⟨r, q, m⟩ := m2.2.2.1
      exact ⟨r, q, (m.dn dn4).dn j1⟩
  · obtain ⟨j1, j2, j3⟩ := J
    have fk5 := fk4.dn j1
    have dg5 : Dg σ s := dg4.tr (Dg.dn (j1.mono (fun x q => by omega)))
    obtain ⟨e, he⟩ : ∃ e, V.T[n]? = some e := ⟨_, List.getElem?_eq_getElem hn⟩
    obtain ⟨c1, c2, c3⟩ := d20 n e he
    obtain ⟨m1', m2', m3', m4'⟩ := hv.2.2.2.2.1 e (List.mem_of_getElem? he)
    have m1' := m1'.1
    have m2' := m2'.1
    have rdS : ∀ (u : Hp), Dg σ u → gfr u 17 702 3 = some 5 ∧ gfr u 17 703 3 = some 6 ∧ gfr u 17 704 3 = some 7 ∧ ald u 1 5 (nI n) = some (nI e.1) ∧ ald u 1 6 (nI n) = some (nI e.2.1) ∧ ald u 1 7 (nI n) = some (nI e.2.2) := fun u dg => by
      have ku : u.kd 3 = 17 := by rw [dg.1.1]; exact d1
      refine ⟨by rw [gfr_ok ku, (dg.2 3 (by omega)).2.1, d11], by rw [gfr_ok ku, (dg.2 3 (by omega)).2.1, d12], by rw [gfr_ok ku, (dg.2 3 (by omega)).2.1, d13], ?_, ?_, ?_⟩
      · rw [ald_ok (by rw [dg.1.1]; exact d3) (by rw [dg.1.2.1]; show n < σ.ln (3 + 2); omega) (by omega), (dg.2 5 (by omega)).2.2]; exact congrArg some c1
      · rw [ald_ok (by rw [dg.1.1]; exact d4) (by rw [dg.1.2.1]; show n < σ.ln (3 + 3); omega) (by omega), (dg.2 6 (by omega)).2.2]; exact congrArg some c2
      · rw [ald_ok (by rw [dg.1.1]; exact d5) (by rw [dg.1.2.1]; show n < σ.ln (3 + 4); omega) (by omega), (dg.2 7 (by omega)).2.2]; exact congrArg some c3
    obtain ⟨x1, x2, -, x4, x5, -⟩ := rdS s dg5
    show ∃ a', _ ∧ kX1_follow_115 (F + 1) 19 3 (nI n) s = _
    rw [kX1_follow_115.eq_2, gfi_ok fk5.1.1, (j1.2 19 (by omega)).1, i105, bind_s, if_neg (nI_ge hn (by omega)), fk5.t, bind_s, x1, bind_s, x4, bind_s, x2, bind_s, x5, bind_s, show (40 : Int32) = nI 40 from rfl, pk_mul, nI_add, ast_saw fk5.1.2.2.2 (by rw [fk5.2.1.2.2]; omega) (by omega), bind_s]
    generalize hs6 : saw s 22 (upd (s.ar 22) n (nI (e.1 * 40 + e.2.1))) = s6
    have dn6 : Dn (fun x => x = 20 ∨ x = 22) s s6 := by rw [← hs6]; exact Dn.xa (Or.inr rfl)
    have fk6 := fk5.dn dn6
    have dg6 : Dg σ s6 := dg5.tr (Dg.dn (dn6.mono (fun x q => by omega)))
    obtain ⟨-, -, y3, -, -, y6⟩ := rdS s6 dg6
    have r22 : s6.ar 22 n = nI (e.1 * 40 + e.2.1) := by rw [← hs6, ar_saw]; exact upd_s
    have c20 : s6.ar 20 = s.ar 20 := by rw [← hs6]; exact ar_saw_ne (by decide)
    rw [fk6.c, bind_s, fk6.t, bind_s, fk6.gt (by omega), r22, bind_s, y3, bind_s, y6, bind_s, fk6.set (by omega), bind_s, nI_1]
    refine ⟨_, ⟨(j1.tr dn6).xa' (Or.inl rfl), fun k e2 hk he2 => ?_, fun a b ha hb => ?_⟩, rfl⟩
    · rw [ar_saw_ne (by decide)]
      by_cases z : k = n
      · subst z
        rw [he] at he2
        cases he2
        exact r22
      · rw [← hs6, ar_saw, upd_n z]
        exact j2 k e2 (by omega) he2
    · have tk : V.T.take (n + 1) = V.T.take n ++ [e] := by rw [List.take_succ, he]; rfl
      rw [ar_saw, tk, tl_snoc]
      have nil : e.1 = a ∧ e.2.1 = b → tl (V.T.take n) a b = none := fun w => by
        have t := tl_tp (V.T.take n) a b
        cases q : tp (V.T.take n) a b with
        | none => rw [q] at t; exact t.1
        | some k =>
          rw [q] at t
          obtain ⟨e2, h1, h2, h3, h4⟩ := t
          have hk := get_lt h1
          rw [List.length_take] at hk
          rw [List.getElem?_take_of_lt (by omega)] at h1
          have pw := List.pairwise_iff_getElem.mp hv.2.2.2.2.2 k n (by omega) hn (by omega)
          rw [List.getElem?_eq_getElem (by omega)] at h1 he
          rw [Option.some.inj h1, Option.some.inj he] at pw
          exact absurd ⟨h2.trans w.1.symm, h3.trans w.2.symm⟩ pw
      by_cases w : e.1 = a ∧ e.2.1 = b
      · rw [nil w, w.1, w.2, upd_s]
        simp only [if_pos (show True ∧ True from ⟨trivial, trivial⟩), and_self, if_true]
      · rw [upd_n (fun y => w (ix_inj m2' hb.1 y.symm)), c20, j3 a b ha hb]
        cases tl (V.T.take n) a b with
        | some f => rfl
        | none => simp only [if_neg w]
  · rw [← hs4, ar_sfi, m3 a b ha.1 hb.1 ha.2 hb.2]
    rfl
end FO2
