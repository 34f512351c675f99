section COVERS
variable {σ : Hp} {S : MS} {V : Vt} {π : Nat → Nat} {g : Gh} {E : Nat} {L : List Nat} {N U E8 : Nat} {O : List Nat}
/-- an entry's reach covers what is below -/
def gd (V : Vt) (g : Gh) (p : Nat) (e : Ent) : Prop := (V.P p).lf = false → gbl V e.1 0 (tbl V g e.2.2) ≤ e.2.1
theorem c_cov31 {k6 : Nat → Int32 → Hp → Option (Int32 × Hp)} (st : St σ 3 E L V) (wl : Wl N U σ E L E8 ((fl V g π).map (adr L))) (rg : Rg σ L V g π) (tv : Tv σ V) (hv : Vw V) (w : Wf V g V.U) {p a n : Nat} (hp : p < V.U) (ha : L[p]? = some a) : ∀ (m F k : Nat), m < F → k + m = (V.P p).es.length → ((∀ e ∈ (V.P p).es.drop k, gd V g p e) ∧ kX10_reachesCover_31 k6 F 27 (nI n) a (nI k) σ = k6 27 (nI (n + 1)) σ) ∨ ((∃ e ∈ (V.P p).es.drop k, ¬ gd V g p e) ∧ kX10_reachesCover_31 k6 F 27 (nI n) a (nI k) σ = some (0, σ))
  | m, 0, _, h, _ => absurd h (Nat.not_lt_zero m)
  | 0, F + 1, k, _, hk => by
    have pc := st.2.2.2.2.2.2 p a hp ha
    have l7 := pc.le
    refine Or.inl ⟨fun e he => ?_, ?_⟩
    · rw [List.drop_eq_nil_of_le (by omega)] at he; cases he
    · rw [kX10_reachesCover_31.eq_2, pc.n, bind_s, if_pos (nI_le (by omega) (by omega)), nI_1]
  | m + 1, F + 1, k, hF, hk => by
    have pc := st.2.2.2.2.2.2 p a hp ha
    have l7 := pc.le
    obtain ⟨e, he⟩ : ∃ e, (V.P p).es[k]? = some e := ⟨_, List.getElem?_eq_getElem (by omega)⟩
    have dr : (V.P p).es.drop k = e :: (V.P p).es.drop (k + 1) := by
      rw [List.drop_eq_getElem_cons (List.getElem?_eq_some_iff.mp he).1]
      congr 1
      exact (List.getElem?_eq_some_iff.mp he).2
    have r9 := (w.es hp e (List.mem_of_getElem? he)).2
    have ih := c_cov31 (k6 := k6) (n := n) st wl rg tv hv w hp ha m F (k + 1) (by omega) (by omega)
    rw [dr, kX10_reachesCover_31.eq_2, pc.n, bind_s, if_neg (nI_ge (by omega) (by omega)), pc.l, bind_s, bI_0']
    unfold kX10_reachesCover_63
    rw [nI_1]
    have go : gd V g p e → ((∀ x ∈ e :: (V.P p).es.drop (k + 1), gd V g p x) ∧ kX10_reachesCover_31 k6 F 27 (nI n) a (nI (k + 1)) σ = k6 27 (nI (n + 1)) σ) ∨ ((∃ x ∈ e :: (V.P p).es.drop (k + 1), ¬ gd V g p x) ∧ kX10_reachesCover_31 k6 F 27 (nI n) a (nI (k + 1)) σ = some (0, σ)) := fun hgd => by
      rcases ih with ⟨i1, i2⟩ | ⟨⟨x, x1, x2⟩, i2⟩
      · refine Or.inl ⟨fun x hx => ?_, i2⟩
        rcases List.mem_cons.mp hx with rfl | hx
        · exact hgd
        · exact i1 x hx
      · exact Or.inr ⟨⟨x, List.mem_cons_of_mem _ x1, x2⟩, i2⟩
    cases hl : (V.P p).lf with
    | true =>
      rw [if_neg (by decide)]
      exact go (fun y => by rw [hl] at y; cases y)
    | false =>
      have gle := gbl_le hv (tbl V g e.2.2) 0 (c := e.1) (by omega)
      rw [if_pos (by decide), pc.1.f2, bind_s, pc.r he, bind_s, ckd_ok wl.1.1, c_gb st wl rg tv hv w hp ha hl he, bind_s]
      by_cases z : gbl V e.1 0 (tbl V g e.2.2) ≤ e.2.1
      · rw [if_pos (nI_le z (by omega))]
        exact go (fun _ => z)
      · rw [if_neg (nI_ge (by omega) (by omega)), zb_0, bind_s]
        exact Or.inr ⟨⟨e, List.mem_cons_self .., fun y => z (y hl)⟩, rfl⟩
theorem c_covers (st : St σ 3 E L V) (wl : Wl N U σ E L E8 ((fl V g π).map (adr L))) (rg : Rg σ L V g π) (tv : Tv σ V) (hv : Vw V) (w : Wf V g V.U) : ((∀ p, p < V.U → ∀ e ∈ (V.P p).es, gd V g p e) ∧ kX10_reachesCover_6 FU 27 0 σ = some (1, σ)) ∨ ((∃ p, p < V.U ∧ ∃ e ∈ (V.P p).es, ¬ gd V g p e) ∧ kX10_reachesCover_6 FU 27 0 σ = some (0, σ)) := by
  have u := w.u
  have flen : (fl V g π).length = V.U := by rw [fl_len]; exact ord_full w
  have sz := wl.2.1.size
  rw [List.length_map, flen] at sz
  have key : ∀ (m F i : Nat), m < F → i + m = V.U → ((∀ (j : Nat) (t : It), i ≤ j → (fl V g π)[j]? = some t → ∀ e ∈ (V.P t.1).es, gd V g t.1 e) ∧ kX10_reachesCover_6 F 27 (nI i) σ = some (1, σ)) ∨ ((∃ p, p < V.U ∧ ∃ e ∈ (V.P p).es, ¬ gd V g p e) ∧ kX10_reachesCover_6 F 27 (nI i) σ = some (0, σ)) := by
    intro m
    induction m with
    | zero =>
      intro F i hF hi
      obtain ⟨F, rfl⟩ : ∃ F', F = F' + 1 := ⟨F - 1, by omega⟩
      refine Or.inl ⟨fun j t h1 h2 => ?_, ?_⟩
      · have := (List.getElem?_eq_some_iff.mp h2).1
        omega
      · rw [kX10_reachesCover_6.eq_2, gfr_ok wl.1.1, wl.1.2.2.2, bind_s, wl.2.1.c, sz, bind_s, if_pos (nI_le (by omega) (by omega)), zb_1, bind_s]
    | succ m ih =>
      intro F i hF hi
      obtain ⟨F, rfl⟩ : ∃ F', F = F' + 1 := ⟨F - 1, by omega⟩
      obtain ⟨t, ht⟩ : ∃ t, (fl V g π)[i]? = some t := ⟨_, List.getElem?_eq_getElem (by omega)⟩
      have tU := (fl_itv w t (List.mem_of_getElem? ht)).1
      obtain ⟨a, ha, pc, -⟩ := st.pg tU
      have l7 := pc.le
      have hget : ((fl V g π).map (adr L))[i]? = some a := by rw [List.getElem?_map, ht]; show some (adr L t) = _; rw [adr_eq ha]
      have in31 := c_cov31 (k6 := kX10_reachesCover_6 F) (n := i) st wl rg tv hv w tU ha (V.P t.1).es.length FU 0 (FU_gt (by omega)) (by omega)
      rw [List.drop_zero] at in31
      rw [kX10_reachesCover_6.eq_2, gfr_ok wl.1.1, wl.1.2.2.2, bind_s, wl.2.1.c, sz, bind_s, if_neg (nI_ge (by omega) (by omega)), bind_s, wl.2.1.c, wl.2.1.at hget, bind_s, ckc_ok pc.1.1]
      rcases in31 with ⟨i1, i2⟩ | ⟨i1, i2⟩
      · have i2 : kX10_reachesCover_31 (kX10_reachesCover_6 F) FU 27 (nI i) a 0 σ = kX10_reachesCover_6 F 27 (nI (i + 1)) σ := i2
        rw [i2]
        rcases ih F (i + 1) (by omega) (by omega) with ⟨j1, j2⟩ | ⟨j1, j2⟩
        · refine Or.inl ⟨fun j x h1 h2 => ?_, j2⟩
          by_cases z : j = i
          · rw [z, ht] at h2
            cases h2
            exact i1
          · exact j1 j x (by omega) h2
        · exact Or.inr ⟨j1, j2⟩
      · have i2 : kX10_reachesCover_31 (kX10_reachesCover_6 F) FU 27 (nI i) a 0 σ = some (0, σ) := i2
        exact Or.inr ⟨⟨t.1, tU, i1⟩, i2⟩
  rcases key V.U FU 0 (FU_gt (by omega)) (by omega) with ⟨k1, k2⟩ | ⟨k1, k2⟩
  · refine Or.inl ⟨fun p hp => ?_, k2⟩
    obtain ⟨j, t, j1, rfl⟩ := fl_at w (π := π) hp
    exact k1 j t (Nat.zero_le _) j1
  · exact Or.inr ⟨k1, k2⟩
theorem r_cov11 {k2 : Int32 → MS → Option (Int32 × MS)} (rt : RT (S.1 0) V π) (hv : Vw V) (w : Wf V g V.U) {p : Nat} (hp : p < V.U) : ∀ (m F k : Nat) (S' : MS), m < F → k + m = (V.P p).es.length → R4 S S' → ∃ S'', R4 S S'' ∧ (((∀ e ∈ (V.P p).es.drop k, gd V g p e) ∧ r_covers_11 k2 F (nI (π p)) (nI k) S' = k2 (nI (π p + 1)) S'') ∨ ((∃ e ∈ (V.P p).es.drop k, ¬ gd V g p e) ∧ r_covers_11 k2 F (nI (π p)) (nI k) S' = some (0, S'')))
  | m, 0, _, _, h, _, _ => absurd h (Nat.not_lt_zero m)
  | 0, F + 1, k, S', _, hk, r4 => by
    have u := w.u
    have rt' : RT (S'.1 0) V π := by rw [r4.r0]; exact rt
    obtain ⟨p1, rp⟩ := rt'.2.2.1 p hp
    have l7 := rp.2.2
    rw [List.length_map] at l7
    refine ⟨S', r4, Or.inl ⟨fun e he => ?_, ?_⟩⟩
    · rw [List.drop_eq_nil_of_le (by omega)] at he; cases he
    · rw [r_covers_11.eq_2, rp.n (by omega), bind_s, List.length_map, if_pos (nI_le (by omega) (by omega)), nI_1]
  | m + 1, F + 1, k, S', hF, hk, r4 => by
    have u := w.u
    have rt' : RT (S'.1 0) V π := by rw [r4.r0]; exact rt
    obtain ⟨p1, rp⟩ := rt'.2.2.1 p hp
    have l7 := rp.2.2
    rw [List.length_map] at l7
    obtain ⟨e, he⟩ : ∃ e, (V.P p).es[k]? = some e := ⟨_, List.getElem?_eq_getElem (by omega)⟩
    have dr : (V.P p).es.drop k = e :: (V.P p).es.drop (k + 1) := by
      rw [List.drop_eq_getElem_cons (List.getElem?_eq_some_iff.mp he).1]
      congr 1
      exact (List.getElem?_eq_some_iff.mp he).2
    have r9 := (w.es hp e (List.mem_of_getElem? he)).2
    have he' : ((V.P p).es.map (reE V π (V.P p)))[k]? = some (reE V π (V.P p) e) := by rw [List.getElem?_map, he]; rfl
    have go : ∀ S2, R4 S S2 → gd V g p e → ∃ S'', R4 S S'' ∧ (((∀ x ∈ e :: (V.P p).es.drop (k + 1), gd V g p x) ∧ r_covers_11 k2 F (nI (π p)) (nI (k + 1)) S2 = k2 (nI (π p + 1)) S'') ∨ ((∃ x ∈ e :: (V.P p).es.drop (k + 1), ¬ gd V g p x) ∧ r_covers_11 k2 F (nI (π p)) (nI (k + 1)) S2 = some (0, S''))) := fun S2 r42 hgd => by
      obtain ⟨S3, i0, ih⟩ := r_cov11 (k2 := k2) rt hv w hp m F (k + 1) S2 (by omega) (by omega) r42
      refine ⟨S3, i0, ?_⟩
      rcases ih with ⟨i1, i2⟩ | ⟨⟨x, x1, x2⟩, i2⟩
      · refine Or.inl ⟨fun x hx => ?_, i2⟩
        rcases List.mem_cons.mp hx with rfl | hx
        · exact hgd
        · exact i1 x hx
      · exact Or.inr ⟨⟨x, List.mem_cons_of_mem _ x1, x2⟩, i2⟩
    rw [dr, r_covers_11.eq_2, rp.n (by omega), bind_s, List.length_map, if_neg (nI_ge (by omega) (by omega)), rp.l (by omega), bind_s, bI_0']
    unfold r_covers_46
    rw [nI_1]
    cases hl : (V.P p).lf with
    | true =>
      rw [if_neg (by decide)]
      exact go S' r4 (fun y => by rw [hl] at y; cases y)
    | false =>
      have gle := gbl_le hv (tbl V g e.2.2) 0 (c := e.1) (by omega)
      obtain ⟨S2, f1, f2⟩ := r_gb rt' hv w hp hl he
      have r42 : R4 S S2 := r4.tr f2
      have rt2 : RT (S2.1 0) V π := by rw [r42.r0]; exact rt
      have rp2 := (rt2.2.2.1 p hp).2
      rw [if_pos (by decide), f1, bd2_s, rp2.e1 (by omega) he', bind_s]
      by_cases z : gbl V e.1 0 (tbl V g e.2.2) ≤ e.2.1
      · rw [if_pos (show nI (gbl V e.1 0 (tbl V g e.2.2)) ≤ nI (reE V π (V.P p) e).2.1 from nI_le z (show e.2.1 < 2 ^ 31 by omega))]
        exact go S2 r42 (fun _ => z)
      · rw [if_neg (show ¬ nI (gbl V e.1 0 (tbl V g e.2.2)) ≤ nI (reE V π (V.P p) e).2.1 from nI_ge (by show e.2.1 < _; omega) (by omega)), zb_0, bind_s]
        exact ⟨S2, r42, Or.inr ⟨⟨e, List.mem_cons_self .., fun y => z (y hl)⟩, rfl⟩⟩
theorem r_covers_eq (rt : RT (S.1 0) V π) (hv : Vw V) (w : Wf V g V.U) : ∃ S', R4 S S' ∧ (((∀ p, p < V.U → ∀ e ∈ (V.P p).es, gd V g p e) ∧ r_covers S = some (1, S')) ∨ ((∃ p, p < V.U ∧ ∃ e ∈ (V.P p).es, ¬ gd V g p e) ∧ r_covers S = some (0, S'))) := by
  have u := w.u
  have key : ∀ (m F q : Nat) (S' : MS), m < F → q + m = 784 → R4 S S' → ∃ S'', R4 S S'' ∧ (((∀ p, p < V.U → q ≤ π p → ∀ e ∈ (V.P p).es, gd V g p e) ∧ r_covers_2 F (nI q) S' = some (1, S'')) ∨ ((∃ p, p < V.U ∧ ∃ e ∈ (V.P p).es, ¬ gd V g p e) ∧ r_covers_2 F (nI q) S' = some (0, S''))) := by
    intro m
    induction m with
    | zero =>
      intro F q S' hF hq r4
      obtain ⟨F, rfl⟩ : ∃ F', F = F' + 1 := ⟨F - 1, by omega⟩
      refine ⟨S', r4, Or.inl ⟨fun p hp h => ?_, ?_⟩⟩
      · have := (rt.2.2.1 p hp).1
        omega
      · rw [r_covers_2.eq_2, if_pos (show (784 : Int32) ≤ nI q from nI_le (a := 784) (by omega) (by omega)), zb_1, bind_s]
    | succ m ih =>
      intro F q S' hF hq r4
      obtain ⟨F, rfl⟩ : ∃ F', F = F' + 1 := ⟨F - 1, by omega⟩
      have rt' : RT (S'.1 0) V π := by rw [r4.r0]; exact rt
      rw [r_covers_2.eq_2, if_neg (show ¬ (784 : Int32) ≤ nI q from nI_ge (b := 784) (by omega) (by omega))]
      by_cases z : q < V.U
      · obtain ⟨p, hp, rfl⟩ := rt.2.2.2.2.2 q z
        obtain ⟨S2, r42, in11⟩ := r_cov11 (k2 := r_covers_2 F) rt hv w hp (V.P p).es.length FU 0 S' (FU_gt (by have := w.len hv hp; omega)) (by omega) r4
        rw [List.drop_zero] at in11
        rcases in11 with ⟨i1, i2⟩ | ⟨i1, i2⟩
        · obtain ⟨S3, r43, jj⟩ := ih F (π p + 1) S2 (by omega) (by omega) r42
          have i2 : r_covers_11 (r_covers_2 F) FU (nI (π p)) 0 S' = r_covers_2 F (nI (π p + 1)) S2 := i2
          rw [i2]
          refine ⟨S3, r43, ?_⟩
          rcases jj with ⟨j1, j2⟩ | ⟨j1, j2⟩
          · refine Or.inl ⟨fun x hx h => ?_, j2⟩
            by_cases y : π x = π p
            · rw [rt.2.2.2.2.1 x p hx hp y]; exact i1
            · exact j1 x hx (by omega)
          · exact Or.inr ⟨j1, j2⟩
        · have i2 : r_covers_11 (r_covers_2 F) FU (nI (π p)) 0 S' = some (0, S2) := i2
          exact ⟨S2, r42, Or.inr ⟨⟨p, hp, i1⟩, i2⟩⟩
      · have cnt : r_countOf S' (nI q) = some (-1) := by rw [r_countOf_eq (by omega), rt'.2.2.2.1 q (by omega) (by omega)]
        obtain ⟨S3, r43, jj⟩ := ih F (q + 1) S' (by omega) (by omega) r4
        have st : r_covers_11 (r_covers_2 F) FU (nI q) 0 S' = r_covers_2 F (nI (q + 1)) S' := by
          rw [show FU = 999999 + 1 from rfl, r_covers_11.eq_2, cnt, bind_s, if_pos (by decide), nI_1]
        rw [st]
        refine ⟨S3, r43, ?_⟩
        rcases jj with ⟨j1, j2⟩ | ⟨j1, j2⟩
        · exact Or.inl ⟨fun x hx h => j1 x hx (by have := (rt.2.2.1 x hx).1; omega), j2⟩
        · exact Or.inr ⟨j1, j2⟩
  obtain ⟨S', r4, kk⟩ := key 784 FU 0 S (FU_gt (by omega)) (by omega) Rn.rfl
  refine ⟨S', r4, ?_⟩
  rcases kk with ⟨k1, k2⟩ | ⟨k1, k2⟩
  · exact Or.inl ⟨fun p hp => k1 p hp (Nat.zero_le _), k2⟩
  · exact Or.inr ⟨k1, k2⟩
theorem j_covers (J : JC σ S E L V π g) (wl : Wl N U σ E L E8 O) : ∃ r σ' S', kX11_covers σ 2 = some (r, σ') ∧ r_covers S = some (r, S') ∧ Wk N U V σ E L E8 σ' ∧ Rk S S' := by
  obtain ⟨co, rt, hv, w, hg⟩ := J
  have lk := co.2.2.2.2.2
  obtain ⟨s', E', a1, a2, a3, a4, a5, a6, a7⟩ := c_renew w (π := π) co.1 co.2.2.1.1 wl
  have wk : Wk N U V σ E L E8 s' := ⟨E', _, a2, a3, a4, a6, a7⟩
  obtain ⟨lk', tv'⟩ := wk.lk co wl
  obtain ⟨S', r4, rr⟩ := r_covers_eq rt hv w
  unfold kX11_covers kX10_reachesCover
  rw [lk.f4, bind_s, ckd_ok wl.1.1, ckd_ok wl.1.1, a1, bind_s]
  rcases c_covers a2 a4 a5.rg tv' hv w with ⟨c1, c2⟩ | ⟨⟨p, c1, e, c2, c3⟩, c4⟩
  · rcases rr with ⟨d1, d2⟩ | ⟨⟨p, d1, e, d2, d3⟩, -⟩
    · rw [c2, bd2_s, zb_1, bind_s]; exact ⟨_, _, _, rfl, d2, wk, r4.rk⟩
    · exact absurd (c1 p d1 e d2) d3
  · rcases rr with ⟨d1, d2⟩ | ⟨d1, d2⟩
    · exact absurd (d1 p c1 e c2) c3
    · rw [c4, bd2_s, zb_0, bind_s]; exact ⟨_, _, _, rfl, d2, wk, r4.rk⟩
end COVERS
