section RENEW2
variable {E : Nat} {L : List Nat} {V : Vt} {g : Gh} {π : Nat → Nat} {N U : Nat} {σ σ' : Hp}
theorem Lv.fg {l E8 a : Nat} {O : List Nat} (h : Lv σ l E8 O) (f : Fg a σ σ') : Lv σ' l E8 O := by
  obtain ⟨⟨f1, f2, f3, f4, f5, f6, f7⟩, f8⟩ := f
  unfold Lv
  rw [f1, f2, f3, f5, f8 1202 l (fun z => by omega)]
  exact h
theorem Wl.fg {E8 a : Nat} {O : List Nat} (h : Wl N U σ E L E8 O) (f : Fg a σ σ') : Wl N U σ' E L E8 O := by
  have lv := h.2.1.fg f
  obtain ⟨⟨f1, f2, f3, f4, f5, f6, f7⟩, f8⟩ := f
  unfold Wl
  rw [f1, f2, f3, f6, f7]
  exact ⟨h.1, lv, h.2.2⟩
theorem Fg.wn {a : Nat} (f : Fg a σ σ') (h : Wn σ) : Wn σ' := by
  obtain ⟨⟨f1, f2, f3, f4, f5, f6, f7⟩, f8⟩ := f
  unfold Wn
  rw [f1, f6]
  exact h
/-- spans and things below, gathered from behind -/
def Gf (L : List Nat) (σ σ' : Hp) : Prop := (σ'.kd = σ.kd ∧ σ'.ln = σ.ln ∧ σ'.fr = σ.fr ∧ σ'.ar = σ.ar ∧ σ'.rr = σ.rr ∧ σ'.nx = σ.nx ∧ σ'.us = σ.us) ∧ ∀ i y, (i ≠ 307 ∧ i ≠ 310) ∨ y ∉ L → σ'.fi i y = σ.fi i y
theorem Gf.df (h : Gf L σ σ') : Df (fun x => Fp 3 E L x) σ σ' := by
  obtain ⟨⟨f1, f2, f3, f4, f5, f6, f7⟩, f8⟩ := h
  exact ⟨by rw [f6]; exact Nat.le_refl _, fun a _ => by rw [f1, f2]; exact ⟨rfl, rfl⟩, fun a _ nA => ⟨fun i => f8 i a (Or.inr (fun z => nA (Or.inr (Or.inr ⟨a, z, Nat.le_refl _, Nat.le_add_right _ _⟩)))), fun i => by rw [f3], by rw [f4], by rw [f5]⟩⟩
theorem c_renew103 (w : Wf V g V.U) : ∀ (m F : Nat) (σ : Hp) (E8 : Nat), m < F → m ≤ (fl V g π).length → St σ 3 E L V → Wl N U σ E L E8 ((fl V g π).map (adr L)) → (∀ (j : Nat) (t : It) (a : Nat), m ≤ j → (fl V g π)[j]? = some t → L[t.1]? = some a → σ.fi 307 a = nI (spn V g t.1) ∧ σ.fi 310 a = nI (tbn V g t.1)) → ∃ σ', kX10_renew_103 F 27 (nI m - 1) σ = some σ' ∧ St σ' 3 E L V ∧ Wl N U σ' E L E8 ((fl V g π).map (adr L)) ∧ (∀ (j : Nat) (t : It) (a : Nat), (fl V g π)[j]? = some t → L[t.1]? = some a → σ'.fi 307 a = nI (spn V g t.1) ∧ σ'.fi 310 a = nI (tbn V g t.1)) ∧ Gf L σ σ'
  | m, 0, _, _, h, _, _, _, _ => absurd h (Nat.not_lt_zero m)
  | 0, F + 1, σ, E8, _, _, st, wl, hj => by
    rw [kX10_renew_103.eq_2, if_pos (by decide)]
    exact ⟨σ, rfl, st, wl, fun j t a => hj j t a (Nat.zero_le _), ⟨rfl, rfl, rfl, rfl, rfl, rfl, rfl⟩, fun _ _ _ => rfl⟩
  | m + 1, F + 1, σ, E8, hF, hm, st, wl, hj => by
    have flen : (fl V g π).length = V.U := by rw [fl_len]; exact ord_full w
    have u := w.u
    obtain ⟨D, t, rest, e1, e2, e3, e4⟩ := fl_split w (π := π) m (by omega)
    have tU := e4 t (List.mem_cons_self ..)
    obtain ⟨a, ha, pc, hat⟩ := st.pg tU
    have nd := st.2.2.2.1
    have hget : ((fl V g π).map (adr L))[m]? = some a := by rw [List.getElem?_map, e3]; show some (adr L t) = _; rw [adr_eq ha]
    have kidsAt : ∀ c, c ∈ kids V t.1 → ∃ (j : Nat) (x : It), m + 1 ≤ j ∧ (fl V g π)[j]? = some x ∧ x.1 = c := fun c hc => by
      rw [← kidI_kids (π := π)] at hc
      obtain ⟨x, hx, rfl⟩ := List.mem_map.mp hc
      have : x ∈ stk V g π (kidI V π t ++ rest) := (stk_sub _).subset (List.mem_append_left _ hx)
      obtain ⟨i, hi⟩ := List.mem_iff_getElem?.mp this
      refine ⟨m + 1 + i, x, by omega, ?_, rfl⟩
      rw [e1, stk_step w tU, List.getElem?_append_right (by omega), e2, show m + 1 + i - m = i + 1 by omega, List.getElem?_cons_succ]
      exact hi
    obtain ⟨s1, g1, g2, g3, g4, g5⟩ := c_gather w (σ := σ) (sp := spn V g) (tb := tbn V g) tU ha st ⟨wl.1.1, wl.1.2.1⟩ (fun hl j e b he hb => by
      obtain ⟨i, x, i1, i2, i3⟩ := kidsAt e.2.2 (by unfold kids; rw [if_neg (by rw [hl]; decide)]; exact List.mem_map.mpr ⟨e, List.mem_of_getElem? he, rfl⟩)
      have := hj i x b i1 i2 (by rw [i3]; exact hb)
      rw [i3] at this
      exact this)
    rw [← spn_eq w tU] at g4
    rw [← tbn_eq w tU] at g5
    have old : ∀ (j : Nat) (x : It) (b : Nat), m ≤ j → (fl V g π)[j]? = some x → L[x.1]? = some b → s1.fi 307 b = nI (spn V g x.1) ∧ s1.fi 310 b = nI (tbn V g x.1) := fun j x b h1 h2 h3 => by
      by_cases z : b = a
      · have : x.1 = t.1 := nd_eq nd h3 (z ▸ ha)
        rw [z, this]
        exact ⟨g4, g5⟩
      · have jm : j ≠ m := fun y => by
          rw [y, e3] at h2
          cases h2
          rw [ha] at h3
          cases h3
          exact z rfl
        rw [g3.2 307 b (fun y => z y.1), g3.2 310 b (fun y => z y.1)]
        exact hj j x b (by omega) h2 h3
    obtain ⟨s2, k1, k2, k3, k4, k5⟩ := c_renew103 w m F s1 E8 (by omega) (by omega) g2 (wl.fg g3) old
    refine ⟨s2, ?_, k2, k3, k4, ?_⟩
    · rw [kX10_renew_103.eq_2, show nI (m + 1) - 1 = nI m by rw [show (1 : Int32) = nI 1 from rfl, pk_sub (by omega)]; rfl, if_neg (nI_pos (by omega)), gfr_ok wl.1.1, wl.1.2.2.2, bind_s, wl.2.1.c, wl.2.1.at hget, bind_s, ckc_ok pc.1.1, ckd_ok wl.1.1, g1, bind_s, ← Int32.sub_eq_add_neg]
      exact k1
    · obtain ⟨⟨a1, a2, a3, a4, a5, a6, a7⟩, a8⟩ := g3
      obtain ⟨⟨b1, b2, b3, b4, b5, b6, b7⟩, b8⟩ := k5
      refine ⟨⟨b1.trans a1, b2.trans a2, b3.trans a3, b4.trans a4, b5.trans a5, b6.trans a6, b7.trans a7⟩, fun i y h => (b8 i y h).trans (a8 i y (fun z => ?_))⟩
      rcases h with h | h
      · omega
      · exact h (z.1 ▸ List.mem_of_getElem? ha)
theorem Wl.add {E8 : Nat} {O : List Nat} (st : St σ 3 E L V) (wn : Wn σ) (h : Wl N U σ E L E8 O) {a : Nat} (ha : σ.kd a = 13) (hl : O.length < 1000) : ∃ σ' E8', kJx4a65c_add_9ea2d σ 28 a = some (1, σ') ∧ St σ' 3 E L V ∧ Wn σ' ∧ Wl N U σ' E L E8' (O ++ [a]) ∧ Df (fun x => x = 28 ∨ x = E8) σ σ' ∧ (E8' = E8 ∨ E8' = σ.nx) := by
  obtain ⟨c, lv, hA, ⟨r1, r2⟩, r3, r4⟩ := id h
  obtain ⟨σ', E', g1, g2, g3, g4, g5, g6, g7⟩ := lv.add wn (Or.inl ha) hl (by omega) (by omega)
  have st' : St σ' 3 E L V := st.df wn g4 (fun x hx q => by have := hA x hx; omega)
  have n27 := h.ne
  have l27 : 27 < σ.nx := wn.2 27 (by rw [c.1]; decide)
  have f27 := g4.2.2 27 l27 (fun q => by omega)
  refine ⟨σ', E', g1, st', g3, ⟨⟨?_, ?_, ?_, ?_⟩, g2, fun y hy => ?_, ⟨by omega, by omega⟩, r3, r4⟩, g4, g5⟩
  · rw [(g4.2.1 27 l27).1]; exact c.1
  · rw [f27.2.1]; exact c.2.1
  · rw [f27.2.1]; exact c.2.2.1
  · rw [f27.2.1]; exact c.2.2.2
  · have y1 := hA y hy
    have y2 := Fp.lt st wn hy
    exact ⟨y1.1, fun e => by rcases g5 with z | z <;> omega⟩
/-- what the walk knows of all pages -/
def Rv (σ : Hp) (L : List Nat) (V : Vt) (g : Gh) (π : Nat → Nat) : Prop := ∀ (j : Nat) (t : It) (a : Nat), (fl V g π)[j]? = some t → L[t.1]? = some a → (σ.fi 306 a = nI j ∧ σ.fi 307 a = nI (spn V g t.1) ∧ σ.fi 310 a = nI (tbn V g t.1)) ∧ Fdp σ L V t
theorem c_renew (w : Wf V g V.U) {E8 : Nat} {O : List Nat} (st : St σ 3 E L V) (wn : Wn σ) (wl : Wl N U σ E L E8 O) : ∃ σ' E8', kX10_renew σ 27 = some σ' ∧ St σ' 3 E L V ∧ Wn σ' ∧ Wl N U σ' E L E8' ((fl V g π).map (adr L)) ∧ Rv σ' L V g π ∧ Df (fun x => Fp 3 E L x ∨ x = 28 ∨ x = E8) σ σ' ∧ (E8' = E8 ∨ σ.nx ≤ E8') := by
  obtain ⟨c, lv, hA, hr⟩ := id wl
  obtain ⟨s1, a1, a2, a3⟩ := lv.clear wn
  have n27 := wl.ne
  have l27 : 27 < σ.nx := wn.2 27 (by rw [c.1]; decide)
  have f27 := a3.1.2.2 27 l27 (fun q => by omega)
  have st1 : St s1 3 E L V := st.df wn a3.1 (fun x hx q => by have := hA x hx; omega)
  have wn1 := a3.wn wn
  have wl1 : Wl N U s1 E L E8 [] := by
    refine ⟨⟨by rw [a3.2.2.2.1]; exact c.1, by rw [f27.2.1]; exact c.2.1, by rw [f27.2.1]; exact c.2.2.1, by rw [f27.2.1]; exact c.2.2.2⟩, a2, hA, ?_⟩
    rw [a3.2.1, a3.2.2.1, a3.2.2.2.2]
    exact hr
  obtain ⟨a, ha, pc, hat⟩ := st1.pg w.1.1
  have aF : Fp 3 E L a := Or.inr (Or.inr ⟨a, List.mem_of_getElem? ha, ⟨Nat.le_refl _, by omega⟩⟩)
  generalize h2 : sfi (sfi s1 308 a 0) 309 a (-1) = s2
  have st2 : St s2 3 E L V := by rw [← h2]; exact (st1.w (by omega)).w (by omega)
  have wn2 : Wn s2 := by rw [← h2]; exact wn1
  have wl2 : Wl N U s2 E L E8 [] := by rw [← h2]; exact (wl1.w (by omega)).w (by omega)
  have pc2 : s2.kd a = 13 := by rw [← h2]; exact pc.1.1
  obtain ⟨s3, E3, b1, b2, b3, b4, b5, b6⟩ := wl2.add st2 wn2 pc2 (by decide)
  have aE := hA a aF
  have n2 : s2.nx = s1.nx := by rw [← h2]; rfl
  have anx : a < s2.nx := Fp.lt st2 wn2 aF
  have fa := (b5.2.2 a anx (fun q => by omega)).1
  have nd := st.2.2.2.1
  have hroot : Fdp s3 L V (V.R, 0, -1, -1) := fun b hb => by
    have hb : L[V.R]? = some b := hb
    rw [ha] at hb
    cases hb
    refine ⟨?_, fun _ => ?_, fun p k e hp hl he ee => ?_⟩
    · rw [fa, ← h2, fi_sfi, if_neg (by omega), fi_sfi, if_pos ⟨rfl, rfl⟩]; rfl
    · rw [fa, ← h2, fi_sfi, if_pos ⟨rfl, rfl⟩]
    · exact absurd ee (((w.2.1 p hp).2.1 e (List.mem_of_getElem? he)).2.2.1 hl).2.2.2.2
  have flen : (fl V g π).length = V.U := by rw [fl_len]; exact ord_full w
  have u := w.u
  have wl3 : Wl N U s3 E L E3 ((([] : List It) ++ [(V.R, 0, -1, -1)]).map (adr L)) := by
    show Wl N U s3 E L E3 [adr L (V.R, 0, -1, -1)]
    rw [adr_eq (t := (V.R, 0, -1, -1)) ha]
    exact b4
  obtain ⟨s4, E4, k1, k2, k3, k4, k5, k6, k7, k8⟩ := c_renew43 w (π := π) (fl V g π).length FU [(V.R, 0, -1, -1)] [] s3 E3 (FU_gt (by omega)) (by rw [← fl_stk]) (by rw [← fl_stk]; rfl) (fun x hx => by rw [List.mem_singleton.mp hx]; exact w.1.1) b2 b3 wl3 (fun t ht => by rw [List.mem_singleton.mp ht]; exact hroot) (fun j t a hj => by cases hj)
  obtain ⟨s5, m1, m2, m3, m4, m5⟩ := c_renew103 w (π := π) (fl V g π).length FU s4 E4 (FU_gt (by omega)) (Nat.le_refl _) k2 k4 (fun j t a h1 h2 => by
    have := (List.getElem?_eq_some_iff.mp h2).1
    omega)
  have d12 : Df (fun x => Fp 3 E L x ∨ x = 28 ∨ x = E8) σ s2 := by
    rw [← h2]
    exact (a3.1.mono (fun x _ q => Or.inr q)).tr ((Df.xi (A := fun x => Fp 3 E L x ∨ x = 28 ∨ x = E8) (Or.inl aF)).tr (Df.xi (Or.inl aF)))
  have d13 : Df (fun x => Fp 3 E L x ∨ x = 28 ∨ x = E8) σ s3 := d12.trans b5 (fun x _ q => Or.inr q)
  have nx2 : s2.nx = σ.nx := by rw [n2, a3.2.1]
  have E3' : E3 = E8 ∨ σ.nx ≤ E3 := by
    rcases b6 with z | z
    · exact Or.inl z
    · exact Or.inr (by omega)
  have d14 : Df (fun x => Fp 3 E L x ∨ x = 28 ∨ x = E8) σ s4 := d13.trans k7 (fun x hx q => by
    rcases q with q | q | q
    · exact Or.inl q
    · exact Or.inr (Or.inl q)
    · rcases E3' with z | z
      · exact Or.inr (Or.inr (q.trans z))
      · omega)
  have g4' : ∀ i y, (i ≠ 307 ∧ i ≠ 310) → s5.fi i y = s4.fi i y := fun i y h => m5.2 i y (Or.inl h)
  refine ⟨s5, E4, ?_, m2, ?_, m3, fun j t b hj hb => ⟨⟨?_, m4 j t b hj hb⟩, ?_⟩, d14.trans m5.df (fun x _ q => Or.inl q), ?_⟩
  · have k1 : kX10_renew_43 FU 27 0 s3 = kX10_renew_93 27 s4 := k1
    have sz := k4.2.1.size
    rw [List.length_map] at sz
    unfold kX10_renew
    rw [gfr_ok c.1, c.2.2.2, bind_s, lv.c, a1, bind_s, gfr_ok wl1.1.1, wl1.1.2.1, bind_s, bind_s, st1.rt, bind_s, st1.cs, hat, bind_s, pfi_ok pc.1.1, bind_s, pfi_ok (show (sfi s1 308 a 0).kd a = 13 from pc.1.1), bind_s, h2, gfr_ok wl2.1.1, wl2.1.2.2.2, bind_s, wl2.2.1.c, b1, bd2_s, k1]
    unfold kX10_renew_93
    rw [gfr_ok k4.1.1, k4.1.2.2.2, bind_s, k4.2.1.c, sz, bind_s, m1]
  · unfold Wn
    rw [m5.1.1, m5.1.2.2.2.2.2.1]
    exact k3
  · rw [g4' 306 b (by decide)]; exact k6 j t b hj hb
  · exact (k5 t (List.mem_of_getElem? hj)).to (fun b' _ => ⟨g4' 308 b' (by decide), g4' 309 b' (by decide)⟩)
  · have n3 := d13.1
    rcases k8 with z | z
    · rcases E3' with y | y
      · exact Or.inl (z.trans y)
      · exact Or.inr (by omega)
    · exact Or.inr (by omega)
end RENEW2
