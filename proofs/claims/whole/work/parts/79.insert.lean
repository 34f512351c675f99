theorem up2_r {A : Nat → Nat → Int32} {j i a : Nat} {v : Int32} (h : a ≠ j) : up2 A j i v a = A a := funext fun _ => if_neg (fun q => h q.1)
section INS
variable {V : Vt} {g : Gh} {o : Nat} {π : Nat → Nat}
theorem RT.pg {f f' : Nat → Int32} {p : Nat} {P' : Pg} (h : RT f V π) (hv : Vw V) (hp : p < V.U) (cx : Cq (fun q => q = π p) f f') (hP : RP f' (94 + 30 * π p) P'.lf (P'.es.map (reE V π P'))) : RT f' (V.sP p P') π := by
  obtain ⟨h1, hr, hpg, hfr, hin, hsu⟩ := h
  have sm : Sm V (V.sP p P') := ⟨rfl, rfl, rfl, rfl⟩
  have er : ∀ P : Pg, reE (V.sP p P') π P = reE V π P := fun P => funext fun e => reE_s sm rfl rfl (fun _ => rfl)
  have hp1 := (hpg p hp).1
  refine ⟨sm.rww (cx.rw hv h1), ?_, fun r hr => ?_, fun r hr hr2 => ?_, hin, hsu⟩
  · rw [cx 2 (fun r _ => by omega)]; exact hr
  · refine ⟨(hpg r hr).1, ?_⟩
    rw [er]
    by_cases z : r = p
    · rw [z, sP_s]; exact hP
    · rw [sP_n z]
      exact cx.rp (hpg r hr).2 (fun y => z (hin r p hr hp y))
  · rw [cx (94 + 30 * r) (fun s hs => by
      have hr : V.U ≤ r := hr
      omega)]
    exact hfr r hr hr2
theorem set_self {α : Type} {l : List α} {k : Nat} {x : α} (h : l[k]? = some x) : l.set k x = l := by
  refine List.ext_getElem? (fun i => ?_)
  by_cases z : k = i
  · subst z
    rw [List.getElem?_set_self (get_lt h), h]
  · rw [List.getElem?_set_ne z]
theorem c_reach {σ : Hp} {a k r : Nat} {p : Pg} {e : Ent} (h : PC σ a p) (he : p.es[k]? = some e) : ∃ σ', ast σ 1 (a + 2) (nI k) (nI r) = some σ' ∧ PC σ' a (mkP p.lf p.ce (p.es.set k (e.1, r, e.2.2))) ∧ Dp a σ σ' := by
  have l7 := h.le
  have hk := get_lt he
  obtain ⟨p1, ⟨p2, p3, p4, p5⟩, p6⟩ := id h
  refine ⟨_, ast_saw p1.2.2.1.2.1 (by rw [p1.2.2.2.2.1]; omega) (by omega), ⟨p1.cg kd_saw ln_saw fr_saw, ⟨by rw [fi_saw]; exact p2, by rw [fi_saw]; exact p3, ?_, ?_⟩, fun j e2 he2 => ?_⟩, Df.xa ⟨by omega, by omega⟩, nx_saw, us_saw, kd_saw, ln_saw⟩
  · rw [fi_saw, p4]
    show _ = nI (p.es.set k _).length
    rw [List.length_set]
  · show (p.es.set k _).length ≤ 7
    rw [List.length_set]; exact p5
  · have he2 : (p.es.set k (e.1, r, e.2.2))[j]? = some e2 := he2
    rw [ar_saw_ne (by omega), ar_saw, ar_saw_ne (by omega)]
    by_cases z : k = j
    · subst z
      rw [List.getElem?_set_self hk] at he2
      cases he2
      obtain ⟨x1, x2, x3⟩ := p6 k e he
      exact ⟨x1, upd_s, x3⟩
    · rw [List.getElem?_set_ne z] at he2
      rw [upd_n (fun y => z y.symm)]
      exact p6 j e2 he2
theorem Pa.set {pp pe : Nat → Nat} {n p : Nat} {P' : Nat → Pg} (h : Pa V pp pe n p) (hP : ∀ q, q < V.U → (P' q).lf = (V.P q).lf ∧ ∀ (k : Nat) (e : Ent), (V.P q).es[k]? = some e → ∃ e', (P' q).es[k]? = some e' ∧ e'.2.2 = e.2.2) : Pa (mkV V.W V.T V.M V.C V.U V.R P') pp pe n p := by
  refine ⟨h.1, h.2.1, fun m hm => ?_⟩
  obtain ⟨c1, c2, e, c3, c4⟩ := h.2.2 m hm
  obtain ⟨e', x1, x2⟩ := (hP _ c1).2 _ e c3
  exact ⟨c1, ((hP _ c1).1).trans c2, e', x1, x2.trans c4⟩
set_option maxHeartbeats 1000000 in
theorem j_dn {t : Nat} : ∀ (h n : Nat) (pp pe : Nat → Nat) (σ : Hp) (S : MS) (E : Nat) (L : List Nat) (V : Vt) (π : Nat → Nat) (g : Gh) (p a F F' : Nat), h < F → h < F' → g.ht p = h → Ts σ E L V → RT (S.1 0) V π → Vw V → Wf V g V.U → p < V.U → L[p]? = some a → Pa V pp pe n p → Pw σ S π pp pe n → hs V t → g.lo t = none → ∃ σ' S', kX9_insert_23 F 23 (nI t) (nI p) a (nI n) (nI n) σ = some σ' ∧ r_putNow_9 F' (nI t) (nI (π p)) (nI n) S = some S' ∧ Po σ S E L V σ' S' (fun x => if x = t then true else (g.lo x).isSome) := by
  intro h
  induction h with
  | zero =>
    intro n pp pe σ S E L V π g p a F F' hF hF' hh ts rt hv w hp ha pa pw ht hn
    obtain ⟨F, rfl⟩ : ∃ F0, F = F0 + 1 := ⟨F - 1, by omega⟩
    obtain ⟨F', rfl⟩ : ∃ F0, F' = F0 + 1 := ⟨F' - 1, by omega⟩
    have pc := ts.1.2.2.2.2.2.2 p a hp ha
    have wp := w.2.1 p hp
    have hl : (V.P p).lf = true := wp.1.1.mpr hh
    have hC := hv.2.2.1
    have u780 := w.u
    have lC : (V.P p).es.length ≤ V.C := by have := wp.1.2.1; rw [if_neg (by omega)] at this; exact this
    obtain ⟨p1, p2⟩ := rt.2.2.1 p hp
    have hn38 : n ≤ 38 := by
      have := pa.ht w n (Nat.le_refl _)
      rw [Nat.sub_self, pa.2.1] at this
      have := w.hr
      omega
    rw [kX9_insert_23.eq_2, if_neg (show ¬ (40 : Int32) ≤ nI n from nI_ge (b := 40) (by omega) (by omega)), pc.l, bind_s, ite_bI, if_pos hl]
    unfold kX9_insert_139
    rw [pc.n, bind_s, ckd_ok pc.1.1]
    obtain ⟨σ1, k1, k2, k3⟩ := c_insertEntry pc (k := (V.P p).es.length) (t := t) (r := 0) (b := 0) (vb := -1) (Nat.le_refl _) (by omega) (fun z => by rw [hl] at z; cases z)
    have k1 : kX3_insertEntry σ a (nI (V.P p).es.length) (nI t) 0 (-1) = some σ1 := k1
    rw [k1, bind_s]
    rw [insE_end, hl] at k2
    obtain ⟨t1, q1⟩ := ts.pg hp ha k3 k2
    have w1 := w.add hp hl ht hn
    -- the reference's way
    have key : ∀ T, S2 S T → ∃ σ' S', kX9_insert_156 FU 23 (nI p) a (nI n - 1) σ1 = some σ' ∧ r_putNow_127 (nI t) (nI (π p)) (nI n) (nI (cw V (V.P p).ce t)) T = some S' ∧ Po σ S E L V σ' S' (fun x => if x = t then true else (g.lo x).isSome) := by
      intro T hT
      have t0 : T.1 0 = S.1 0 := hT.r (by decide) (by decide)
      unfold r_putNow_127
      have p2' : RP (T.1 0) (94 + 30 * π p) (V.P p).lf ((V.P p).es.map (reE V π (V.P p))) := by rw [t0]; exact p2
      rw [p2'.n (by omega), bind_s]
      obtain ⟨f1, m1, m2, m3⟩ := r_insert_eq p2' (q := π p) (k := ((V.P p).es.map (reE V π (V.P p))).length) (e := (t, 0, cw V (V.P p).ce t, -1)) (by omega) (Nat.le_refl _) (by rw [List.length_map]; omega)
      have m1 : r_insert T (nI (π p)) (nI ((V.P p).es.map (reE V π (V.P p))).length) (nI t) 0 (nI (cw V (V.P p).ce t)) (-1) = some (r0 T f1) := m1
      rw [m1, bind_s]
      have cx : Cq (fun q => q = π p) (S.1 0) f1 := fun x hx => by rw [m3 x (hx _ rfl), t0]
      rw [insE_end] at m2
      have rt1 : RT f1 (V.sP p (mkP true (V.P p).ce ((V.P p).es ++ [(t, 0, 0)]))) π := by
        refine rt.pg hv hp cx ?_
        have e1 : ((V.P p).es ++ [(t, 0, 0)]).map (reE V π (mkP true (V.P p).ce ((V.P p).es ++ [(t, 0, 0)]))) = (V.P p).es.map (reE V π (V.P p)) ++ [(t, 0, cw V (V.P p).ce t, -1)] := by
          rw [List.map_append, List.map_cons, List.map_nil]
          have x1 : (V.P p).es.map (reE V π (mkP true (V.P p).ce ((V.P p).es ++ [(t, 0, 0)]))) = (V.P p).es.map (reE V π (V.P p)) := List.map_congr_left (fun e _ => reE_s Sm.rfl (by rw [hl]; rfl) rfl (fun _ => rfl))
          have x2 : reE V π (mkP true (V.P p).ce ((V.P p).es ++ [(t, 0, 0)])) (t, 0, 0) = (t, 0, cw V (V.P p).ce t, -1) := by
            unfold reE
            rw [wy_cw]
            rfl
          rw [x1, x2]
        show RP f1 _ true (((V.P p).es ++ [(t, 0, 0)]).map _)
        rw [e1, ← hl]
        exact m2
      have at1 := fun x => Dp.at (x := x) ts ha k3
      obtain ⟨σ', S', y1, y2, y3⟩ := j_up n pp pe σ1 (r0 T f1) E L (V.sP p (mkP true (V.P p).ce ((V.P p).es ++ [(t, 0, 0)]))) π (mkGh g.ht g.pa (fun x => if x = t then some p else g.lo x) g.ct) p a FU FU (FU_gt (by omega)) (FU_gt (by omega)) t1 (by rw [r0_0]; exact rt1) (Sm.vw ⟨rfl, rfl, rfl, rfl⟩ hv) w1 hp ha (Or.inl hh) (pa.set (fun q hq => by
          by_cases z : q = p
          · rw [if_pos z, z]
            refine ⟨hl.symm, fun k e he => ⟨e, ?_, rfl⟩⟩
            show ((V.P p).es ++ [(t, 0, 0)])[k]? = some e
            rw [List.getElem?_append_left (get_lt he)]; exact he
          · rw [if_neg z]
            exact ⟨rfl, fun k e he => ⟨e, he, rfl⟩⟩)) (fun m hm => by
          obtain ⟨x1, x2, x3, x4⟩ := pw m hm
          rw [(at1 24 ⟨by omega, by omega⟩).2.2, (at1 25 ⟨by omega, by omega⟩).2.2, r0_j (by decide), r0_j (by decide), hT.r (by decide) (by decide), hT.r (by decide) (by decide)]
          exact ⟨x1, x2, x3, x4⟩)
      refine ⟨σ', S', y1, y2, ?_⟩
      obtain ⟨E', L', V2, π2, g2, z1, z2, z3, z4, z5, z6, z7, z8⟩ := y3
      refine ⟨E', L', V2, π2, g2, z1, z2, z3, q1.tr z4, ((Rn.s2 hT (Or.inr (Or.inl rfl)) (Or.inr (Or.inr (Or.inl rfl)))).tr (Rn.r0 (Or.inl rfl))).tr z5, fun x hx => ?_, Sm.tr ⟨rfl, rfl, rfl, rfl⟩ z7, fun x => ?_⟩
      · rw [z6 x hx, r0_0]
        exact cx x (fun r hr => by omega)
      · rw [z8 x]
        show (if x = t then some p else g.lo x).isSome = if x = t then true else (g.lo x).isSome
        by_cases z : x = t
        · rw [if_pos z, if_pos z]; rfl
        · rw [if_neg z, if_neg z]
    have lr : r_isLeaf S (nI (π p)) = some (bI ((V.P p).lf = true)) := p2.l (by omega)
    rw [r_putNow_9.eq_2, lr, bind_s, ite_bI, if_pos hl]
    by_cases z : n = 0
    · subst z
      have : (V.P p).ce = none := by
        have : p = V.R := pa.1.symm.trans pa.2.1
        rw [this]; exact w.1.2
      rw [if_pos (show nI 0 = 0 from rfl)]
      have := key S S2.rfl
      rw [‹(V.P p).ce = none›] at this
      exact this
    · obtain ⟨m, rfl⟩ : ∃ m, n = m + 1 := ⟨n - 1, by omega⟩
      obtain ⟨c1, c2, e', c3, c4'⟩ := pa.2.2 m (by omega)
      rw [pa.1] at c4'
      obtain ⟨-, -, u4, u5⟩ := pw m (by omega)
      obtain ⟨v1, v2⟩ := rt.2.2.1 _ c1
      have s3 : nI (m + 1) - 1 = nI m := by rw [show (1 : Int32) = nI 1 from rfl, pk_sub (by omega)]; rfl
      have we := (w.2.1 _ c1).2.1 e' (List.mem_of_getElem? c3)
      have cq : (V.P p).ce = some e'.1 := by
        have := (we.2.2.1 c2).2.2.1
        rw [c4'] at this
        exact this
      rw [if_neg (nI_ne0 (by omega) (by omega)), s3, rd_ok (show m < m_len 4 by rw [len4]; omega) (by omega), bind_s, rd_ok (show m < m_len 5 by rw [len5]; omega) (by omega), bind_s, u4, u5, v2.e0 (by omega) (e := reE V π (V.P (pp m)) e') (by rw [List.getElem?_map, c3]; rfl), bind_s]
      obtain ⟨T, f1, f2⟩ := r_farOf_eq rt.1 hv we.1 ht
      have f1 : r_farOf S (nI (reE V π (V.P (pp m)) e').1) (nI t) = some (nI (far V e'.1 t), T) := f1
      rw [f1, bd2_s]
      have := key T f2
      rw [cq, s3] at this
      exact this
  | succ h ih =>
    intro n pp pe σ S E L V π g p a F F' hF hF' hh ts rt hv w hp ha pa pw ht hn
    obtain ⟨F, rfl⟩ : ∃ F0, F = F0 + 1 := ⟨F - 1, by omega⟩
    obtain ⟨F', rfl⟩ : ∃ F0, F' = F0 + 1 := ⟨F' - 1, by omega⟩
    have pc := ts.1.2.2.2.2.2.2 p a hp ha
    have wp := w.2.1 p hp
    have hl : (V.P p).lf = false := by
      cases z : (V.P p).lf with
      | false => rfl
      | true => have := wp.1.1.mp z; omega
    have l7 := pc.le
    have u780 := w.u
    obtain ⟨p1, p2⟩ := rt.2.2.1 p hp
    have hn38 : n + (h + 1) ≤ 38 := by
      have := pa.ht w n (Nat.le_refl _)
      rw [Nat.sub_self, pa.2.1] at this
      have := w.hr
      omega
    have h0 : 0 < (V.P p).es.length := by
      by_cases z : p = V.R
      · have := wp.1.2.2.2.1 hl z; omega
      · exact wp.1.2.2.1 z
    obtain ⟨k, T0, hk, c1, c2, c3⟩ := j_chosen ts.2.1 hv pc rt.1 p2 (by omega) (List.length_map _) (fun k e he => ⟨_, _, by rw [List.getElem?_map, he]; rfl⟩) ht (fun e he => ⟨(w.es hp e he).1, by have := (w.es hp e he).2; omega⟩) h0
    obtain ⟨e, he⟩ : ∃ e, (V.P p).es[k]? = some e := ⟨_, List.getElem?_eq_getElem hk⟩
    have em := List.mem_of_getElem? he
    have we := wp.2.1 e em
    have wi := we.2.2.1 hl
    have fl := far_le hv e.1 t
    have w38 := w.hp hp
    have e9 : e.2.1 ≤ 9000 := (w.es hp e em).2
    have rl : (if nI (far V e.1 t) ≤ nI e.2.1 then nI e.2.1 else nI (far V e.1 t)) = nI (max e.2.1 (far V e.1 t)) := by
      by_cases z : far V e.1 t ≤ e.2.1
      · rw [if_pos (nI_le z (by omega)), Nat.max_eq_left z]
      · rw [if_neg (nI_ge (by omega) (by omega)), Nat.max_eq_right (by omega)]
    generalize hr : max e.2.1 (far V e.1 t) = r at rl
    -- the class
    obtain ⟨σ1, k1, k2, k3⟩ := c_reach (r := r) pc he
    obtain ⟨t1, q1⟩ := ts.pg hp ha k3 k2
    have at1 := fun x => Dp.at (x := x) ts ha k3
    have tv1 : Tv σ1 V := t1.2.1
    have cls : kX9_insert_23 (F + 1) 23 (nI t) (nI p) a (nI n) (nI n) σ = kX9_insert_92 (kX9_insert_23 F) 23 (nI t) (nI p) a (nI n) (nI k) (a + 2) (nI k) (nI r) σ := by
      rw [kX9_insert_23.eq_2, if_neg (show ¬ (40 : Int32) ≤ nI n from nI_ge (b := 40) (by omega) (by omega)), pc.l, bind_s, ite_bI, if_neg (by rw [hl]; decide), ckd_ok ts.2.1.1.1, c1, bind_s, ts.2.1.fa, bind_s, pc.1.f1, bind_s, pc.t he, bind_s, ts.2.1.kf, ts.2.1.of we.1 ht, bind_s, pc.1.f2, bind_s, bind_s, pc.r he, bind_s, bind_s, pc.r he, bind_s, ← rl]
      by_cases z : nI (far V e.1 t) ≤ nI e.2.1
      · rw [if_pos z, if_pos z]
      · rw [if_neg z, if_neg z]
    have w24 : ast σ1 1 24 (nI n) (nI p) = some (saw σ1 24 (upd (σ1.ar 24) n (nI p))) := ast_saw tv1.1.2.2.2.2.1 (by rw [tv1.1.2.2.2.2.2.1]; omega) (by omega)
    generalize hs2 : saw σ1 24 (upd (σ1.ar 24) n (nI p)) = σ2 at w24
    have d2 : Dn At σ1 σ2 := by rw [← hs2]; exact Dn.xa ⟨by omega, by omega⟩
    have tv2 : Tv σ2 V := tv1.dn d2 (fun q => by unfold At at q; omega)
    have w25 : ast σ2 1 25 (nI n) (nI k) = some (saw σ2 25 (upd (σ2.ar 25) n (nI k))) := ast_saw tv2.1.2.2.2.2.2.2.1 (by rw [tv2.1.2.2.2.2.2.2.2.1]; omega) (by omega)
    generalize hs3 : saw σ2 25 (upd (σ2.ar 25) n (nI k)) = σ3 at w25
    have d3 : Dn At σ1 σ3 := by rw [← hs3]; exact d2.xa' ⟨by omega, by omega⟩
    obtain ⟨t3, q3⟩ := t1.dn d3
    have tv3 : Tv σ3 V := t3.2.1
    have pc3 := t3.1.2.2.2.2.2.2 p a hp ha
    rw [sP_s] at pc3
    have he3 : (mkP (V.P p).lf (V.P p).ce ((V.P p).es.set k (e.1, r, e.2.2))).es[k]? = some (e.1, r, e.2.2) := List.getElem?_set_self hk
    obtain ⟨b, hb, -, hb3⟩ := t3.1.pg (p := e.2.2) wi.1
    have cls2 : kX9_insert_92 (kX9_insert_23 F) 23 (nI t) (nI p) a (nI n) (nI k) (a + 2) (nI k) (nI r) σ = kX9_insert_23 F 23 (nI t) (nI e.2.2) b (nI (n + 1)) (nI (n + 1)) σ3 := by
      unfold kX9_insert_92
      rw [k1, bind_s, tv1.pp, bind_s, w24, bind_s, tv2.pe, bind_s, w25, bind_s, pc3.1.f3, bind_s, pc3.b he3 hl, bind_s, tv3.st, bind_s, t3.1.cs, hb3, bind_s, nI_1]
    -- the reference
    have t0 : T0.1 0 = S.1 0 := c3.r (by decide) (by decide)
    have p2' : RP (T0.1 0) (94 + 30 * π p) (V.P p).lf ((V.P p).es.map (reE V π (V.P p))) := by rw [t0]; exact p2
    have hek : ((V.P p).es.map (reE V π (V.P p)))[k]? = some (reE V π (V.P p) e) := by rw [List.getElem?_map, he]; rfl
    obtain ⟨T1, f1, f2⟩ := r_farOf_eq (S := T0) (by rw [t0]; exact rt.1) hv we.1 ht
    have f1 : r_farOf T0 (nI (reE V π (V.P p) e).1) (nI t) = some (nI (far V e.1 t), T1) := f1
    have t10 : T1.1 0 = S.1 0 := (f2.r (by decide) (by decide)).trans t0
    have p3' : RP (T1.1 0) (94 + 30 * π p) (V.P p).lf ((V.P p).es.map (reE V π (V.P p))) := by rw [t10]; exact p2
    have ref1 : ∃ T2, r_putNow_9 (F' + 1) (nI t) (nI (π p)) (nI n) S = r_putNow_63 (r_putNow_9 F') (nI t) (nI (π p)) (nI n) (nI k) T2 ∧ Rn Rd Rb S T2 ∧ (T2.1 4 = S.1 4 ∧ T2.1 5 = S.1 5) ∧ Cq (fun q => q = π p) (S.1 0) (T2.1 0) ∧ RP (T2.1 0) (94 + 30 * π p) (V.P p).lf (((V.P p).es.map (reE V π (V.P p))).set k (e.1, r, (reE V π (V.P p) e).2.2.1, (reE V π (V.P p) e).2.2.2)) := by
      have lr : r_isLeaf S (nI (π p)) = some (bI ((V.P p).lf = true)) := p2.l (by omega)
      have rn1 : Rn Rd Rb S T1 := (Rn.s2 c3 (Or.inr (Or.inl rfl)) (Or.inr (Or.inr (Or.inl rfl)))).tr (Rn.s2 f2 (Or.inr (Or.inl rfl)) (Or.inr (Or.inr (Or.inl rfl))))
      rw [r_putNow_9.eq_2, lr, bind_s, ite_bI, if_neg (by rw [hl]; decide), c2, bd2_s, p2'.e0 (by omega) hek, bind_s, f1, bd2_s, p3'.e1 (by omega) hek, bind_s]
      show ∃ T2, (if nI (far V e.1 t) ≤ nI e.2.1 then _ else _) = _ ∧ _
      by_cases z : far V e.1 t ≤ e.2.1
      · rw [if_pos (nI_le z (by omega))]
        refine ⟨T1, rfl, rn1, ⟨?_, ?_⟩, by rw [t10]; exact Cq.rfl, ?_⟩
        · rw [f2.r (by decide) (by decide), c3.r (by decide) (by decide)]
        · rw [f2.r (by decide) (by decide), c3.r (by decide) (by decide)]
        · have : (e.1, r, (reE V π (V.P p) e).2.2.1, (reE V π (V.P p) e).2.2.2) = reE V π (V.P p) e := by
            rw [← hr, Nat.max_eq_left z]; rfl
          rw [this, set_self hek]
          exact p3'
      · rw [if_neg (nI_ge (by omega) (by omega)), show (1 : Int32) = nI 1 from rfl, r_letEntry_eq (by omega) (by omega) (by omega), bind_s]
        have r2 : r = far V e.1 t := by rw [← hr]; exact Nat.max_eq_right (by omega)
        refine ⟨_, rfl, rn1.tr (Rn.r0 (Or.inl rfl)), ⟨?_, ?_⟩, ?_, ?_⟩
        · rw [r0_j (by decide), f2.r (by decide) (by decide), c3.r (by decide) (by decide)]
        · rw [r0_j (by decide), f2.r (by decide) (by decide), c3.r (by decide) (by decide)]
        · rw [r0_0, t10, show 94 + 30 * π p + 2 + 4 * k + 1 = 94 + 30 * π p + (2 + 4 * k + 1) by omega]
          exact Cq.up rfl (by omega)
        · rw [r0_0, r2]
          exact p3'.let1 hek
    obtain ⟨T2, g1, g2, ⟨g3, g4⟩, g5, g6⟩ := ref1
    have rt2 : RT (T2.1 0) (V.sP p (mkP (V.P p).lf (V.P p).ce ((V.P p).es.set k (e.1, r, e.2.2)))) π := by
      refine rt.pg hv hp g5 ?_
      show RP _ _ (V.P p).lf (((V.P p).es.set k (e.1, r, e.2.2)).map _)
      rw [List.map_set]
      have e1 : (V.P p).es.map (reE V π (mkP (V.P p).lf (V.P p).ce ((V.P p).es.set k (e.1, r, e.2.2)))) = (V.P p).es.map (reE V π (V.P p)) := List.map_congr_left (fun e _ => reE_s Sm.rfl rfl rfl (fun _ => rfl))
      rw [e1]
      exact g6
    have ref2 : r_putNow_63 (r_putNow_9 F') (nI t) (nI (π p)) (nI n) (nI k) T2 = r_putNow_9 F' (nI t) (nI (π e.2.2)) (nI (n + 1)) (up2 (up2 T2.1 4 n (nI (π p))) 5 n (nI k), T2.2) := by
      unfold r_putNow_63
      rw [wr_ok (show n < m_len 4 by rw [len4]; omega) (by omega), bind_s, wr_ok (show n < m_len 5 by rw [len5]; omega) (by omega), bind_s]
      have z : RP (((up2 (up2 T2.1 4 n (nI (π p))) 5 n (nI k), T2.2) : MS).1 0) (94 + 30 * π p) (V.P p).lf (((V.P p).es.map (reE V π (V.P p))).set k (e.1, r, (reE V π (V.P p) e).2.2.1, (reE V π (V.P p) e).2.2.2)) := by
        show RP (up2 (up2 T2.1 4 n (nI (π p))) 5 n (nI k) 0) _ _ _
        rw [up2_r (by omega), up2_r (by omega)]
        exact g6
      rw [z.e3 (by omega) (List.getElem?_set_self (by rw [List.length_map]; exact hk)), bind_s, nI_1]
      show r_putNow_9 F' (nI t) (if (V.P p).lf = true then -1 else nI (π e.2.2)) _ _ = _
      rw [hl, if_neg (by decide)]
    rw [cls, cls2, g1, ref2]
    have sm : Sm V (V.sP p (mkP (V.P p).lf (V.P p).ce ((V.P p).es.set k (e.1, r, e.2.2)))) := ⟨rfl, rfl, rfl, rfl⟩
    have hP : ∀ q, (if q = p then mkP (V.P p).lf (V.P p).ce ((V.P p).es.set k (e.1, r, e.2.2)) else V.P q).lf = (V.P q).lf ∧ ∀ (j : Nat) (x : Ent), (V.P q).es[j]? = some x → ∃ x', (if q = p then mkP (V.P p).lf (V.P p).ce ((V.P p).es.set k (e.1, r, e.2.2)) else V.P q).es[j]? = some x' ∧ x'.2.2 = x.2.2 := fun q => by
      by_cases z : q = p
      · rw [if_pos z, z]
        refine ⟨rfl, fun j x hx => ?_⟩
        by_cases y : k = j
        · subst y
          rw [he] at hx
          cases hx
          exact ⟨_, List.getElem?_set_self hk, rfl⟩
        · exact ⟨x, (List.getElem?_set_ne y).trans hx, rfl⟩
      · rw [if_neg z]
        exact ⟨rfl, fun j x hx => ⟨x, hx, rfl⟩⟩
    have w1 : Wf (V.sP p (mkP (V.P p).lf (V.P p).ce ((V.P p).es.set k (e.1, r, e.2.2)))) g V.U := by
      refine w.cong (fun q hq => ?_)
      by_cases z : q = p
      · rw [if_pos z, z]
        refine ⟨rfl, rfl, ?_, fun x hx => ?_⟩
        · show ((V.P p).es.set k (e.1, r, e.2.2)).map _ = _
          rw [List.map_set]
          exact set_self (by rw [List.getElem?_map, he]; rfl)
        · rcases mem_set' hx with y | ⟨i, y1, y2⟩
          · rw [y]
            show r ≤ _
            have := we.2.1
            rw [hh] at this ⊢
            omega
          · exact (wp.2.1 x (List.mem_of_getElem? y2)).2.1
      · rw [if_neg z]
        exact ⟨rfl, rfl, rfl, fun x hx => ((w.2.1 q hq).2.1 x hx).2.1⟩
    have a24 : ∀ m, m ≠ n → σ3.ar 24 m = σ.ar 24 m := fun m hm => by rw [← hs3, ar_saw_ne (by omega), ← hs2, ar_saw, upd_n hm, (at1 24 ⟨by omega, by omega⟩).2.2]
    have a25 : ∀ m, m ≠ n → σ3.ar 25 m = σ.ar 25 m := fun m hm => by rw [← hs3, ar_saw, upd_n hm, ← hs2, ar_saw_ne (by omega), (at1 25 ⟨by omega, by omega⟩).2.2]
    obtain ⟨σ', S', y1, y2, y3⟩ := ih (n + 1) (fun m => if m = n + 1 then e.2.2 else pp m) (fun m => if m = n then k else pe m) σ3 (up2 (up2 T2.1 4 n (nI (π p))) 5 n (nI k), T2.2) E L _ π g e.2.2 b F F' (by omega) (by omega) (by omega) t3 (by
        show RT (up2 (up2 T2.1 4 n (nI (π p))) 5 n (nI k) 0) _ _
        rw [up2_r (by omega), up2_r (by omega)]
        exact rt2) (sm.vw hv) w1 wi.1 hb ⟨if_pos rfl, by
          show (if 0 = n + 1 then e.2.2 else pp 0) = _
          rw [if_neg (by omega)]; exact pa.2.1, fun m hm => by
          show (if m = n + 1 then e.2.2 else pp m) < V.U ∧ (if (if m = n + 1 then e.2.2 else pp m) = p then _ else V.P (if m = n + 1 then e.2.2 else pp m)).lf = false ∧ ∃ x, (if (if m = n + 1 then e.2.2 else pp m) = p then _ else V.P (if m = n + 1 then e.2.2 else pp m)).es[if m = n then k else pe m]? = some x ∧ x.2.2 = if m + 1 = n + 1 then e.2.2 else pp (m + 1)
          rw [if_neg (show ¬ m = n + 1 by omega)]
          by_cases z : m = n
          · rw [z, if_pos rfl, pa.1, if_pos rfl, if_pos rfl]
            exact ⟨hp, hl, _, List.getElem?_set_self hk, rfl⟩
          · obtain ⟨c1, c2, x, c3, c4⟩ := pa.2.2 m (by omega)
            obtain ⟨x', x1, x2⟩ := (hP (pp m)).2 _ x c3
            rw [if_neg z, if_neg (show ¬ m + 1 = n + 1 by omega)]
            exact ⟨c1, ((hP (pp m)).1).trans c2, x', x1, x2.trans c4⟩⟩ (fun m hm => by
          show σ3.ar 24 m = nI (if m = n + 1 then e.2.2 else pp m) ∧ σ3.ar 25 m = nI (if m = n then k else pe m) ∧ up2 (up2 T2.1 4 n (nI (π p))) 5 n (nI k) 4 m = nI (π (if m = n + 1 then e.2.2 else pp m)) ∧ up2 (up2 T2.1 4 n (nI (π p))) 5 n (nI k) 5 m = nI (if m = n then k else pe m)
          rw [if_neg (show ¬ m = n + 1 by omega), up2_n (show ¬ (4 = 5 ∧ m = n) by omega)]
          by_cases z : m = n
          · subst z
            rw [if_pos rfl, pa.1]
            refine ⟨?_, ?_, up2_s, up2_s⟩
            · rw [← hs3, ar_saw_ne (by omega), ← hs2, ar_saw]; exact upd_s
            · rw [← hs3, ar_saw]; exact upd_s
          · obtain ⟨x1, x2, x3, x4⟩ := pw m (by omega)
            rw [if_neg z, a24 m z, a25 m z, up2_n (fun y => z y.2), up2_n (fun y => z y.2), up2_n (by omega), g3, g4]
            exact ⟨x1, x2, x3, x4⟩) ht hn
    refine ⟨σ', S', y1, y2, ?_⟩
    obtain ⟨E', L', V2, π2, g2', z1, z2, z3, z4, z5, z6, z7, z8⟩ := y3
    refine ⟨E', L', V2, π2, g2', z1, z2, z3, (q1.tr q3).tr z4, (g2.tr ((Rn.up (by unfold Rd; omega)).tr (Rn.up (by unfold Rd; omega)))).tr z5, fun x hx => ?_, sm.tr z7, z8⟩
    rw [z6 x hx]
    show up2 (up2 T2.1 4 n (nI (π p))) 5 n (nI k) 0 x = _
    rw [up2_r (by omega), up2_r (by omega)]
    exact g5 x (fun r hr => by omega)
/-- both put a thing into their trees -/
theorem j_insert {t : Nat} {σ : Hp} {S : MS} {E : Nat} {L : List Nat} (ts : Ts σ E L V) (rt : RT (S.1 0) V π) (hv : Vw V) (w : Wf V g V.U) (ht : hs V t) (hn : g.lo t = none) : ∃ σ' S', kX9_insert σ 23 (nI t) = some σ' ∧ r_putNow S (nI t) = some S' ∧ Po σ S E L V σ' S' (fun x => if x = t then true else (g.lo x).isSome) := by
  obtain ⟨a, ha, -, ha3⟩ := ts.1.pg w.1.1
  have hr := w.hr
  obtain ⟨σ', S', y1, y2, y3⟩ := j_dn (t := t) (g.ht V.R) 0 (fun _ => V.R) (fun _ => 0) σ S E L V π g V.R a FU FU (FU_gt (by omega)) (FU_gt (by omega)) rfl ts rt hv w w.1.1 ha ⟨rfl, rfl, fun m hm => absurd hm (Nat.not_lt_zero _)⟩ (fun m hm => absurd hm (Nat.not_lt_zero _)) ht hn
  unfold kX9_insert r_putNow
  rw [ts.2.1.st, bind_s, ts.1.rt, bind_s, bind_s, ts.1.cs, ha3, bind_s, show (2 : Int32) = nI 2 from rfl, rd_r0 (by omega), bind_s, rt.2.1]
  exact ⟨σ', S', y1, y2, y3⟩
end INS
