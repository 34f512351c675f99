section WREAD
variable {σ : Hp} {S : MS} {V : Vt} {π : Nat → Nat} {g : Gh} {E : Nat} {L : List Nat} {N U E8 : Nat} {O : List Nat}
theorem in_iff {n : Nat} (hn : n < 2 ^ 31) (x : Int32) : (0 ≤ x ∧ x ≤ nI n - 1) ↔ ∃ i, i < n ∧ x = nI i := by
  constructor
  · rintro ⟨h1, h2⟩
    rcases i_or x with q | ⟨t, t1, rfl⟩
    · exact absurd h1 (Int32.not_le.mpr q)
    · refine ⟨t, ?_, rfl⟩
      by_cases z : n = 0
      · rw [z] at h2
        have h3 : nI t ≤ -1 := h2
        have : nI t < 0 := Int32.lt_of_le_of_lt h3 (by decide)
        exact absurd h1 (Int32.not_le.mpr this)
      · rw [show (1 : Int32) = nI 1 from rfl, pk_sub (by omega)] at h2
        have := (nI_leI t1 (by omega)).mp h2
        omega
  · rintro ⟨i, h1, rfl⟩
    refine ⟨nI_pos' (by omega), ?_⟩
    rw [show (1 : Int32) = nI 1 from rfl, pk_sub (by omega)]
    exact nI_le (by omega) (by omega)
theorem Lv.k35 {l E8 : Nat} {O : List Nat} (h : Lv σ l E8 O) : σ.kd E8 = 3 ∨ σ.kd E8 = 5 := by
  rcases h.2.1 with q | q
  · exact Or.inr (by rw [q.1]; exact q.2.1)
  · exact Or.inl q.1
/-- what a walk leaves -/
def Wk (N U : Nat) (V : Vt) (σ : Hp) (E : Nat) (L : List Nat) (E8 : Nat) (σ' : Hp) : Prop := ∃ E8' O', St σ' 3 E L V ∧ Wn σ' ∧ Wl N U σ' E L E8' O' ∧ Df (fun x => Fp 3 E L x ∨ x = 28 ∨ x = E8) σ σ' ∧ (E8' = E8 ∨ σ.nx ≤ E8')
theorem Wk.rfl (st : St σ 3 E L V) (wn : Wn σ) (wl : Wl N U σ E L E8 O) : Wk N U V σ E L E8 σ := ⟨E8, O, st, wn, wl, Df.rfl, Or.inl (Eq.refl _)⟩
theorem Wl.no (wl : Wl N U σ E L E8 O) (lo : Lo E L) {x : Nat} (hx : x < 3 ∨ (14 ≤ x ∧ x < 60)) (h28 : x ≠ 28) (hk : σ.kd x ≠ 3 ∧ σ.kd x ≠ 5) : ¬ (Fp 3 E L x ∨ x = 28 ∨ x = E8) := fun q => by
  rcases q with q | q | q
  · have := lo x q; omega
  · exact h28 q
  · have := wl.2.1.k35
    rw [← q] at this
    omega
theorem Wk.lk (co : Co σ E L V V) (wl : Wl N U σ E L E8 O) {σ' : Hp} (h : Wk N U V σ E L E8 σ') : Lk σ' ∧ Tv σ' V := by
  obtain ⟨E8', O', h1, h2, h3, h4, h5⟩ := h
  have lo := co.2.2.1.2.1
  have tv := co.ts.2.1
  have lk := co.2.2.2.2.2
  exact ⟨lk.df co.2.2.1.1 h4 (wl.no lo (by omega) (by decide) (by rw [lk.1]; decide)), tv.df co.2.2.1.1 h4 (wl.no lo (by omega) (by decide) (by rw [tv.1.1]; decide)) (wl.no lo (by omega) (by decide) (by rw [tv.1.2.1]; decide)) (wl.no lo (by omega) (by decide) (by rw [tv.1.2.2.1]; decide))⟩
theorem c_pageAt (co : Co σ E L V V) (w : Wf V g V.U) (wl : Wl N U σ E L E8 O) (x : Int32) : (¬ (∃ i, i < V.U ∧ x = nI i) → kX10_pageAt σ 27 x = some (0, σ)) ∧ ∀ i, i < V.U → x = nI i → ∃ σ' t a, (fl V g π)[i]? = some t ∧ t.1 < V.U ∧ L[t.1]? = some a ∧ a ≠ 0 ∧ St σ' 3 E L V ∧ PC σ' a (V.P t.1) ∧ kX10_pageAt σ 27 x = some (a, σ') ∧ Rv σ' L V g π ∧ Wk N U V σ E L E8 σ' := by
  have st := co.1
  have wn := co.2.2.1.1
  have lo := co.2.2.1.2.1
  have u := w.u
  unfold kX10_pageAt
  refine ⟨fun h => ?_, fun i hi hx => ?_⟩
  · by_cases z : x < 0
    · rw [if_pos z]
    · rcases i_or x with q | ⟨t, t1, rfl⟩
      · exact absurd q z
      · rw [if_neg z, gfr_ok wl.1.1, wl.1.2.1, bind_s, st.u, bind_s, if_neg (fun y => h ⟨t, (nI_ltI t1 (by omega)).mp y, rfl⟩)]
  · subst hx
    obtain ⟨s', E', a1, a2, a3, a4, a5, a6, a7⟩ := c_renew w (π := π) st wn wl
    have flen : (fl V g π).length = V.U := by rw [fl_len]; exact ord_full w
    obtain ⟨t, ht⟩ : ∃ t, (fl V g π)[i]? = some t := ⟨_, List.getElem?_eq_getElem (by omega)⟩
    have tU := (fl_itv w t (List.mem_of_getElem? ht)).1
    obtain ⟨a, ha, pc, hat⟩ := a2.pg tU
    have aF : Fp 3 E L a := Or.inr (Or.inr ⟨a, List.mem_of_getElem? ha, ⟨Nat.le_refl _, by omega⟩⟩)
    have a0 : a ≠ 0 := by have := lo a aF; omega
    have sz := a4.2.1.size
    rw [List.length_map, flen] at sz
    have hget : ((fl V g π).map (adr L))[i]? = some a := by rw [List.getElem?_map, ht]; show some (adr L t) = _; rw [adr_eq ha]
    refine ⟨s', t, a, ht, tU, ha, a0, a2, pc, ?_, a5, ⟨E', _, a2, a3, a4, a6, a7⟩⟩
    rw [if_neg (nI_pos (by omega)), gfr_ok wl.1.1, wl.1.2.1, bind_s, st.u, bind_s, if_pos (nI_lt hi (by omega)), ckd_ok wl.1.1, a1, bind_s, gfr_ok a4.1.1, a4.1.2.2.2, bind_s, a4.2.1.c, sz, bind_s, if_neg (nI_ge hi (by omega)), bind_s, a4.2.1.c, a4.2.1.at hget, bind_s, ckc_ok pc.1.1]
theorem fl_0 (w : Wf V g V.U) : (fl V g π)[0]? = some ((V.R, 0, -1, -1) : It) := by rw [fl_stk, stk_step w w.1.1]; rfl
theorem fl_nr (w : Wf V g V.U) {i : Nat} {t : It} (h : (fl V g π)[i]? = some t) (hi : i ≠ 0) : t.1 ≠ V.R := fun z => by
  have := nd_eq (fl_nd w (π := π)) (i := 0) (j := i) (a := V.R) (by rw [List.getElem?_map, fl_0 w]; rfl) (by rw [List.getElem?_map, h, ← z]; rfl)
  omega
theorem j_page (J : JC σ S E L V π g) (wl : Wl N U σ E L E8 O) (x y : Int32) : ∃ r σ' S', kX11_page σ 2 x y = some (r, σ') ∧ r_page S x y = some (r, S') ∧ Wk N U V σ E L E8 σ' ∧ Rk S S' := by
  obtain ⟨co, rt, hv, w, -⟩ := J
  have lk := co.2.2.2.2.2
  have u := w.u
  obtain ⟨S1, q1, q2, q3⟩ := r_layOrder_eq rt w
  rw [ord_full w] at q1
  have q2 : Oj S1 π (fl V g π) := q2
  have rt1 : RT (S1.1 0) V π := by rw [q3.r0]; exact rt
  unfold kX11_page r_page
  rw [lk.f4, bind_s, ckd_ok wl.1.1, q1, bd2_s, r_isIn_b, bind_s]
  by_cases hx : ∃ i, i < V.U ∧ x = nI i
  · rw [bI_t ((in_iff (by omega) x).mpr hx), if_neg (by decide)]
    obtain ⟨i, hi, rfl⟩ := hx
    obtain ⟨s', t, a, a1, a2, a3, a4, a5, a6, a7, a8, a9⟩ := (c_pageAt co w (π := π) wl (nI i)).2 i hi rfl
    obtain ⟨o1, o2, o3, o4⟩ := q2 i t a1
    obtain ⟨p1, rp⟩ := rt1.2.2.1 t.1 a2
    obtain ⟨⟨v1, v2, v3⟩, v4⟩ := a8 i t a a1 a3
    obtain ⟨v4, v5, v6⟩ := v4 a a3
    have r10 : rd S1 10 (nI i) = some (nI (π t.1)) := by rw [rd_ok (by rw [len9s.2.1]; omega) (by omega), o1]
    have r11 : rd S1 11 (nI i) = some (nI t.2.1) := by rw [rd_ok (by rw [len9s.2.2.1]; omega) (by omega), o2]
    have r12 : rd S1 12 (nI i) = some t.2.2.1 := by rw [rd_ok (by rw [len9s.2.2.2.1]; omega) (by omega), o3]
    have r13 : rd S1 13 (nI i) = some t.2.2.2 := by rw [rd_ok (by rw [len9s.2.2.2.2.1]; omega) (by omega), o4]
    rw [a7, bd2_s, if_neg a4, r10, bind_s]
    have above : i ≠ 0 → ∃ (p k : Nat) (e : Ent), t.2.2.1 = nI (π p) ∧ t.2.2.2 = nI k ∧ r_entryOf S1 (nI (π p)) (nI k) 0 = some (nI e.1) ∧ r_entryOf S1 (nI (π p)) (nI k) 1 = some (nI e.2.1) ∧ (V.P t.1).ce = some e.1 ∧ s'.fi 309 a = nI e.2.1 := fun i0 => by
      rcases (fl_itv w t (List.mem_of_getElem? a1)).2 with z | ⟨p, k, e, b1, b2, b3, b4, b5, b6⟩
      · exact absurd (by rw [z]) (fl_nr w a1 i0)
      · obtain ⟨p2, rp2⟩ := rt1.2.2.1 p b1
        have he : ((V.P p).es.map (reE V π (V.P p)))[k]? = some (reE V π (V.P p) e) := by rw [List.getElem?_map, b3]; rfl
        have ce := (((w.2.1 p b1).2.1 e (List.mem_of_getElem? b3)).2.2.1 b2).2.2.1
        rw [b4] at ce
        exact ⟨p, k, e, b5, b6, rp2.e0 (by omega) he, rp2.e1 (by omega) he, ce, v6 p k e b1 b2 b3 b4⟩
    by_cases y0 : y = 0
    · rw [if_pos y0, if_pos y0, a6.l, bind_s, rp.l (by omega), bind_s, bI_0', bI_0']
      by_cases z : (V.P t.1).lf = true
      · rw [if_neg (by rw [z]; decide), if_neg (by rw [z]; decide)]; exact ⟨_, _, _, rfl, rfl, a9, q3⟩
      · rw [if_pos z, if_pos z]; exact ⟨_, _, _, rfl, rfl, a9, q3⟩
    rw [if_neg y0, if_neg y0]
    by_cases y1 : y = 1
    · rw [if_pos y1, if_pos y1, a6.n, bind_s, rp.n (by omega), bind_s, List.length_map]; exact ⟨_, _, _, rfl, rfl, a9, q3⟩
    rw [if_neg y1, if_neg y1]
    by_cases y2 : y = 2
    · rw [if_pos y2, if_pos y2, a6.ce, bind_s]
      by_cases i0 : i = 0
      · subst i0
        rw [fl_0 w] at a1
        cases a1
        rw [if_pos (show nI 0 = 0 from rfl), show (V.P V.R).ce = none from w.1.2]
        exact ⟨_, _, _, rfl, rfl, a9, q3⟩
      · obtain ⟨p, k, e, b1, b2, b3, b4, b5, b6⟩ := above i0
        rw [if_neg (nI_ne0 (by omega) (by omega)), r12, bind_s, r13, bind_s, b1, b2, b3, bind_s, b5]
        exact ⟨_, _, _, rfl, rfl, a9, q3⟩
    rw [if_neg y2, if_neg y2]
    by_cases y3 : y = 3
    · rw [if_pos y3, if_pos y3, gfi_ok a6.1.1, bind_s]
      by_cases i0 : i = 0
      · subst i0
        rw [fl_0 w] at a1
        cases a1
        rw [if_pos (show nI 0 = 0 from rfl), v5 rfl]
        exact ⟨_, _, _, rfl, rfl, a9, q3⟩
      · obtain ⟨p, k, e, b1, b2, b3, b4, b5, b6⟩ := above i0
        rw [if_neg (nI_ne0 (by omega) (by omega)), r12, bind_s, r13, bind_s, b1, b2, b4, bind_s, b6]
        exact ⟨_, _, _, rfl, rfl, a9, q3⟩
    rw [if_neg y3, if_neg y3]
    by_cases y4 : y = 4
    · rw [if_pos y4, if_pos y4, gfi_ok a6.1.1, bind_s, r11, bind_s, v4]; exact ⟨_, _, _, rfl, rfl, a9, q3⟩
    rw [if_neg y4, if_neg y4]
    by_cases y5 : y = 5
    · obtain ⟨S2, k1, k2, k3, k4⟩ := r_layBelow_eq rt1 hv w a2
      rw [if_pos y5, if_pos y5, gfi_ok a6.1.1, bind_s, v3, k1, bd2_s]; exact ⟨_, _, _, rfl, rfl, a9, q3.trans k4.rk⟩
    rw [if_neg y5, if_neg y5]
    exact ⟨_, _, _, rfl, rfl, a9, q3⟩
  · rw [bI_f (fun z => hx ((in_iff (by omega) x).mp z)), if_pos rfl, (c_pageAt co w (π := π) wl x).1 hx, bd2_s, if_pos rfl]
    exact ⟨_, _, _, rfl, rfl, Wk.rfl co.1 co.2.2.1.1 wl, q3⟩
/-- a page's place in the reference's order -/
theorem r_placeIn_eq {S1 : MS} (rt : RT (S1.1 0) V π) (w : Wf V g V.U) (oj : Oj S1 π (fl V g π)) {j : Nat} {t : It} (hj : (fl V g π)[j]? = some t) : r_placeIn S1 (nI (π t.1)) (nI V.U) = some (nI j) := by
  have u := w.u
  have flen : (fl V g π).length = V.U := by rw [fl_len]; exact ord_full w
  have jl := (List.getElem?_eq_some_iff.mp hj).1
  have tU := (fl_itv w t (List.mem_of_getElem? hj)).1
  unfold r_placeIn
  have key : ∀ (m F i : Nat), m < F → i + m = j → r_placeIn_2 S1 F (nI (π t.1)) (nI V.U) (nI i) = some (nI j) := by
    intro m
    induction m with
    | zero =>
      intro F i hF hi
      obtain ⟨F, rfl⟩ : ∃ F', F = F' + 1 := ⟨F - 1, by omega⟩
      have : i = j := by omega
      subst this
      rw [r_placeIn_2.eq_2, if_neg (nI_ge (by omega) (by omega)), rd_ok (by rw [len9s.2.1]; omega) (by omega), bind_s, (oj i t hj).1, if_pos rfl]
    | succ m ih =>
      intro F i hF hi
      obtain ⟨F, rfl⟩ : ∃ F', F = F' + 1 := ⟨F - 1, by omega⟩
      obtain ⟨x, hx⟩ : ∃ x, (fl V g π)[i]? = some x := ⟨_, List.getElem?_eq_getElem (by omega)⟩
      have xU := (fl_itv w x (List.mem_of_getElem? hx)).1
      have ne : π x.1 ≠ π t.1 := fun z => by
        have := rt.2.2.2.2.1 x.1 t.1 xU tU z
        have := nd_eq (fl_nd w (π := π)) (i := i) (j := j) (a := t.1) (by rw [List.getElem?_map, hx, ← this]; rfl) (by rw [List.getElem?_map, hj]; rfl)
        omega
      have p1 := (rt.2.2.1 x.1 xU).1
      have p2 := (rt.2.2.1 t.1 tU).1
      rw [r_placeIn_2.eq_2, if_neg (nI_ge (by omega) (by omega)), rd_ok (by rw [len9s.2.1]; omega) (by omega), bind_s, (oj i x hx).1, if_neg (fun z => ne ((nI_eq (by omega) (by omega)).mp z)), nI_1]
      exact ih F (i + 1) (by omega) (by omega)
  exact key j FU 0 (FU_gt (by omega)) (by omega)
/-- every page has its place -/
theorem fl_at (w : Wf V g V.U) {p : Nat} (hp : p < V.U) : ∃ (j : Nat) (t : It), (fl V g π)[j]? = some t ∧ t.1 = p := by
  have := ord_mem w _ p hp rfl
  rw [← fl_ord (π := π)] at this
  obtain ⟨t, ht, rfl⟩ := List.mem_map.mp this
  obtain ⟨j, hj⟩ := List.mem_iff_getElem?.mp ht
  exact ⟨j, t, hj, rfl⟩
theorem j_entry (J : JC σ S E L V π g) (wl : Wl N U σ E L E8 O) (x y z : Int32) : ∃ r σ' S', kX11_entry σ 2 x y z = some (r, σ') ∧ r_entry S x y z = some (r, S') ∧ Wk N U V σ E L E8 σ' ∧ Rk S S' := by
  obtain ⟨co, rt, hv, w, -⟩ := J
  have lk := co.2.2.2.2.2
  have u := w.u
  obtain ⟨S1, q1, q2, q3⟩ := r_layOrder_eq rt w
  rw [ord_full w] at q1
  have q2 : Oj S1 π (fl V g π) := q2
  have rt1 : RT (S1.1 0) V π := by rw [q3.r0]; exact rt
  unfold kX11_entry r_entry
  rw [lk.f4, bind_s, ckd_ok wl.1.1, q1, bd2_s, r_isIn_b, bind_s]
  by_cases hx : ∃ i, i < V.U ∧ x = nI i
  · rw [bI_t ((in_iff (by omega) x).mpr hx), if_neg (by decide)]
    obtain ⟨i, hi, rfl⟩ := hx
    obtain ⟨s', t, a, a1, a2, a3, a4, a5, a6, a7, a8, a9⟩ := (c_pageAt co w (π := π) wl (nI i)).2 i hi rfl
    obtain ⟨lk', tv'⟩ := a9.lk co wl
    obtain ⟨o1, -⟩ := q2 i t a1
    obtain ⟨p1, rp⟩ := rt1.2.2.1 t.1 a2
    have l7 := a6.le
    have r10 : rd S1 10 (nI i) = some (nI (π t.1)) := by rw [rd_ok (by rw [len9s.2.1]; omega) (by omega), o1]
    rw [a7, bd2_s, if_neg a4, r10, bind_s, rp.n (by omega), bind_s, List.length_map, r_isIn_b, bind_s]
    by_cases hk : ∃ k, k < (V.P t.1).es.length ∧ y = nI k
    · rw [bI_t ((in_iff (by omega) y).mpr hk), if_neg (show ¬ (1 : Int32) = 0 by decide), r_isIn_b, bind_s]
      obtain ⟨k, kl, rfl⟩ := hk
      obtain ⟨e, he⟩ : ∃ e, (V.P t.1).es[k]? = some e := ⟨_, List.getElem?_eq_getElem (by omega)⟩
      have he' : ((V.P t.1).es.map (reE V π (V.P t.1)))[k]? = some (reE V π (V.P t.1) e) := by rw [List.getElem?_map, he]; rfl
      rw [if_neg (nI_pos (by omega)), a6.n, bind_s, if_pos (nI_lt kl (by omega))]
      have z4 : ∀ n, n ≤ 3 → z = nI n → 0 ≤ z ∧ z ≤ 3 := fun n hn h => by rw [h]; exact ⟨nI_pos' (by omega), nI_le (b := 3) hn (by decide)⟩
      by_cases z0 : z = 0
      · rw [if_pos z0, bI_t (z4 0 (by omega) z0), if_neg (show ¬ (1 : Int32) = 0 by decide), bind_s, if_neg (by rw [z0]; decide), a6.1.f1, bind_s, a6.t he, bind_s, z0, rp.e0 (by omega) he', bind_s]
        exact ⟨_, _, _, rfl, rfl, a9, q3⟩
      rw [if_neg z0]
      by_cases z1 : z = 1
      · rw [if_pos z1, bI_t (z4 1 (by omega) z1), if_neg (show ¬ (1 : Int32) = 0 by decide), bind_s, if_neg (by rw [z1]; decide), a6.1.f2, bind_s, a6.r he, bind_s, z1, rp.e1 (by omega) he', bind_s]
        exact ⟨_, _, _, rfl, rfl, a9, q3⟩
      rw [if_neg z1]
      by_cases z2 : z = 2
      · rw [if_pos z2, bI_t (z4 2 (by omega) z2), if_neg (show ¬ (1 : Int32) = 0 by decide), bind_s, if_neg (by rw [z2]; decide), lk'.f2, bind_s, tv'.kf, z2, rp.e2 (by omega) he', bind_s]
        have : kX1_wayOf s' 19 a (nI k) = some (nI (wy V (V.P t.1) e.1)) := by
          unfold kX1_wayOf wy
          rw [a6.ce, bind_s]
          cases hc : (V.P t.1).ce with
          | none => rw [if_pos (show o2i none = -1 from rfl)]; rfl
          | some c =>
            have hsc := w.ce a2 hc
            have c40 := hsc.1
            have c0 : ¬ (o2i (some c) = -1) := fun y => (nI_m1 (by omega)).mp y
            rw [if_neg c0, bind_s, a6.1.f1, bind_s, a6.t he, bind_s, tv'.kf, show kX1_of s' 19 (o2i (some c)) (nI e.1) = some (nI (far V c e.1)) from tv'.of hsc ((w.2.1 t.1 a2).2.1 e (List.mem_of_getElem? he)).1, bind_s]
        rw [this, bind_s]
        exact ⟨_, _, _, rfl, rfl, a9, q3⟩
      rw [if_neg z2]
      by_cases z3 : z = 3
      · rw [if_pos z3, bI_t (z4 3 (by omega) z3), if_neg (show ¬ (1 : Int32) = 0 by decide), bind_s, if_pos (by rw [z3]; decide), a6.l, bind_s, rp.l (by omega), bind_s, bI_0', bI_0']
        cases hl : (V.P t.1).lf with
        | true => rw [if_neg (by decide), if_neg (by decide)]; exact ⟨_, _, _, rfl, rfl, a9, q3⟩
        | false =>
          obtain ⟨c1, -⟩ := ((w.2.1 t.1 a2).2.1 e (List.mem_of_getElem? he)).2.2.1 hl
          obtain ⟨b, hb, pcb, hat⟩ := a5.pg c1
          obtain ⟨j, tj, j1, j2⟩ := fl_at w (π := π) c1
          have e3 : r_entryOf S1 (nI (π t.1)) (nI k) 3 = some (nI (π e.2.2)) := by
            rw [rp.e3 (by omega) he']
            unfold reE
            rw [if_neg (by rw [hl]; decide)]
          have pl := r_placeIn_eq rt1 w q2 j1
          rw [j2] at pl
          have b6 := (a8 j tj b j1 (by rw [j2]; exact hb)).1.1
          rw [if_pos (by decide), if_pos (by decide), lk'.f0, bind_s, a6.1.f3, bind_s, a6.b he hl, bind_s, a5.cs, hat, bind_s, gfi_ok pcb.1.1, bind_s, e3, bind_s, pl, bind_s, b6]
          exact ⟨_, _, _, rfl, rfl, a9, q3⟩
      rw [if_neg z3, bI_f (fun h => ?_), if_pos rfl]
      · exact ⟨_, _, _, rfl, rfl, a9, q3⟩
      · rcases i_or z with q | ⟨n, n1, rfl⟩
        · exact Int32.not_le.mpr q h.1
        · have n3 := (nI_leI (b := 3) n1 (by omega)).mp h.2
          rcases (show n = 0 ∨ n = 1 ∨ n = 2 ∨ n = 3 by omega) with rfl | rfl | rfl | rfl
          · exact z0 rfl
          · exact z1 rfl
          · exact z2 rfl
          · exact z3 rfl
    · rw [bI_f (fun z => hk ((in_iff (by omega) y).mp z)), if_pos rfl]
      by_cases y0 : y < 0
      · rw [if_pos y0]; exact ⟨_, _, _, rfl, rfl, a9, q3⟩
      · rcases i_or y with q | ⟨n, n1, rfl⟩
        · exact absurd q y0
        · rw [if_neg y0, a6.n, bind_s, if_neg (fun q => hk ⟨n, (nI_ltI n1 (by omega)).mp q, rfl⟩)]
          exact ⟨_, _, _, rfl, rfl, a9, q3⟩
  · rw [bI_f (fun z => hx ((in_iff (by omega) x).mp z)), if_pos rfl, (c_pageAt co w (π := π) wl x).1 hx, bd2_s, if_pos rfl]
    exact ⟨_, _, _, rfl, rfl, Wk.rfl co.1 co.2.2.1.1 wl, q3⟩
end WREAD
