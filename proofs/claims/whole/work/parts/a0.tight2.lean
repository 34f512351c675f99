section TIGHT2
variable {σ0 : Hp} {S0 : MS} {V : Vt} {π : Nat → Nat} {g : Gh} {E : Nat} {L : List Nat} {N U E8 : Nat} {O : List Nat}
theorem Wl.dp {σ σ' : Hp} (wn : Wn σ) (lo : Lo E L) (wl : Wl N U σ E L E8 O) {a : Nat} (ha : a ∈ L) (d : Dp a σ σ') : Wl N U σ' E L E8 O := by
  have inF : ∀ x, Ap a x → Fp 3 E L x := fun x hx => Or.inr (Or.inr ⟨a, ha, hx⟩)
  obtain ⟨c, lv, hA, hr⟩ := id wl
  have n27 : ¬ Ap a 27 := fun z => by have := lo 27 (inF 27 z); omega
  have l27 : 27 < σ.nx := wn.2 27 (by rw [c.1]; decide)
  have f27 := (d.1.2.2 27 l27 n27).2.1
  refine ⟨⟨by rw [d.2.2.2.1]; exact c.1, by rw [f27]; exact c.2.1, by rw [f27]; exact c.2.2.1, by rw [f27]; exact c.2.2.2⟩, lv.df wn d.1 (fun z => (hA 28 (inF 28 z)).1 rfl) (fun _ z => (hA E8 (inF E8 z)).2 rfl), hA, ?_⟩
  rw [d.2.1, d.2.2.1, d.2.2.2.2]
  exact hr
/-- while reaches are made tight -/
def Tz (N U : Nat) (V : Vt) (g : Gh) (π : Nat → Nat) (E : Nat) (L : List Nat) (E8 : Nat) (σ0 σ : Hp) (V' : Vt) : Prop := St σ 3 E L V' ∧ Wl N U σ E L E8 ((fl V g π).map (adr L)) ∧ Rg σ L V g π ∧ Tv σ V ∧ Wn σ ∧ Dm (Fp 3 E L) σ0 σ
theorem c_tt34 {k8 : Nat → Int32 → Int32 → Hp → Option (Int32 × Hp)} (lo : Lo E L) (hv : Vw V) (w : Wf V g V.U) {ix : Nat → Nat} (inj : ∀ p q, p < V.U → q < V.U → ix p = ix q → p = q) {p a n A B : Nat} (hp : p < V.U) (ha : L[p]? = some a) (hi : ix p = n) (hl : (V.P p).lf = false) : ∀ (m F k : Nat) (σ : Hp), m < F → k + m = (V.P p).es.length → Tz N U V g π E L E8 σ0 σ (Vd V g (Dx V ix n k)) → ∃ σ', kX10_tighten_34 k8 F 27 (nI (A + (((V.P p).es.take k).map (fun e => e.2.1)).sum) - nI (B + (((V.P p).es.take k).map (gv V g)).sum)) (nI n) a (nI k) σ = k8 27 (nI (A + ra V p) - nI (B + rb V g p)) (nI (n + 1)) σ' ∧ Tz N U V g π E L E8 σ0 σ' (Vd V g (Dx V ix (n + 1) 0))
  | m, 0, _, _, h, _, _ => absurd h (Nat.not_lt_zero m)
  | 0, F + 1, k, σ, _, hk, tz => by
    have pc := tz.1.2.2.2.2.2.2 p a hp ha
    have l7 := pc.le
    have en : ((Vd V g (Dx V ix n k)).P p).es.length = (V.P p).es.length := tgL_len
    rw [en] at l7
    refine ⟨σ, ?_, ?_⟩
    · rw [List.take_of_length_le (by omega), kX10_tighten_34.eq_2, pc.n, bind_s, en, if_pos (nI_le (by omega) (by omega))]
      unfold kX10_tighten_87 ra rb
      rw [if_neg (by rw [hl]; decide), if_neg (by rw [hl]; decide), nI_1]
    · rw [← Vd_nx inj hp hi (k := k) (fun _ => by omega)]; exact tz
  | m + 1, F + 1, k, σ, hF, hk, tz => by
    obtain ⟨st, wl, rg, tv, wn, dm⟩ := tz
    have pc := st.2.2.2.2.2.2 p a hp ha
    have l7 := pc.le
    have en : ((Vd V g (Dx V ix n k)).P p).es.length = (V.P p).es.length := tgL_len
    rw [en] at l7
    obtain ⟨e, he⟩ : ∃ e, (V.P p).es[k]? = some e := ⟨_, List.getElem?_eq_getElem (by omega)⟩
    obtain ⟨d1, d2⟩ := Vd_st (g := g) inj hp hi hl he
    have sh : Sh V (Vd V g (Dx V ix n k)) := Vd_sh
    have sm : Sm V (Vd V g (Dx V ix n k)) := Vd_sm
    have he1 : ((Vd V g (Dx V ix n k)).P p).es[k]? = some e := d1
    have gb := c_gb (V := Vd V g (Dx V ix n k)) (π := π) (g := g) (N := N) (U := U) (E8 := E8) st (by rw [sh_fl sh]; exact wl) (by unfold Rg; rw [sh_fl sh, sh_spn sh]; exact rg) (sm.tv tv) (sm.vw hv) (Vd_wf hv w) hp ha hl he1
    rw [gbl_sm sm, sh_tbl sh] at gb
    have gb : kX10_greatestBelow σ 27 a (nI k) = some (nI (gv V g e)) := gb
    obtain ⟨s1, r1, r2, r3⟩ := c_reach (r := gv V g e) pc he1
    have sf : s1.fi = σ.fi := by
      have := ast_saw (v := nI (gv V g e)) (k := k) pc.1.2.2.1.2.1 (by rw [pc.1.2.2.2.2.1]; omega) (by omega)
      rw [r1] at this
      cases this
      exact fi_saw
    have aL := List.mem_of_getElem? ha
    have inF : ∀ x, Ap a x → Fp 3 E L x := fun x hx => Or.inr (Or.inr ⟨a, aL, hx⟩)
    have no : ∀ x, x < 3 ∨ (14 ≤ x ∧ x < 60) → ¬ Ap a x := fun x hx z => by have := lo x (inF x z); omega
    have st1 := st.upd wn hp ha r3.1 r2
    have st1 : St s1 3 E L (Vd V g (Dx V ix n (k + 1))) := by rw [d2]; exact st1
    have dp : Dm (Ap a) σ s1 := r3
    obtain ⟨s2, g1, g2⟩ := c_tt34 (k8 := k8) (A := A) (B := B) lo hv w inj hp ha hi hl m F (k + 1) s1 (by omega) (by omega) ⟨st1, wl.dp wn lo aL r3, fun j t b h1 h2 => by rw [sf]; exact rg j t b h1 h2, tv.df wn r3.1 (no 23 (by omega)) (no 19 (by omega)) (no 20 (by omega)), r3.wn wn, dm.trans dp inF⟩
    refine ⟨s2, ?_, g2⟩
    rw [take_sum he, take_sum he, ← Nat.add_assoc, ← Nat.add_assoc, ← i_sum] at g1
    rw [kX10_tighten_34.eq_2, pc.n, bind_s, en, if_neg (nI_ge (by omega) (by omega)), pc.l, bind_s, bI_0', if_pos (show ¬ ((Vd V g (Dx V ix n k)).P p).lf = true by show ¬ (V.P p).lf = true; rw [hl]; decide), ckd_ok wl.1.1, gb, bind_s, pc.1.f2, bind_s, pc.r he1, bind_s, bind_s, r1, bind_s, nI_1]
    exact g1
theorem c_tt8 (lo : Lo E L) (hv : Vw V) (w : Wf V g V.U) {ix pg : Nat → Nat} (inj : ∀ p q, p < V.U → q < V.U → ix p = ix q → p = q) (hpg : ∀ n, n < V.U → pg n < V.U ∧ ix (pg n) = n ∧ ∃ t, (fl V g π)[n]? = some t ∧ t.1 = pg n) : ∀ (m F n : Nat) (σ : Hp), m < F → n + m = V.U → Tz N U V g π E L E8 σ0 σ (Vd V g (Dx V ix n 0)) → ∃ σ', kX10_tighten_8 F 27 (nI (su (fun i => ra V (pg i)) n) - nI (su (fun i => rb V g (pg i)) n)) (nI n) σ = some (nI (su (fun i => ra V (pg i)) V.U) - nI (su (fun i => rb V g (pg i)) V.U), σ') ∧ Tz N U V g π E L E8 σ0 σ' (Vd V g (Dx V ix V.U 0))
  | m, 0, _, _, h, _, _ => absurd h (Nat.not_lt_zero m)
  | m, F + 1, n, σ, hF, hn, tz => by
    have u := w.u
    have flen : (fl V g π).length = V.U := by rw [fl_len]; exact ord_full w
    have wl := tz.2.1
    have sz := wl.2.1.size
    rw [List.length_map, flen] at sz
    by_cases z : m = 0
    · have : n = V.U := by omega
      subst this
      rw [kX10_tighten_8.eq_2, gfr_ok wl.1.1, wl.1.2.2.2, bind_s, wl.2.1.c, sz, bind_s, if_pos (nI_le (by omega) (by omega))]
      exact ⟨σ, rfl, tz⟩
    · obtain ⟨h1, h2, t, h3, h4⟩ := hpg n (by omega)
      obtain ⟨a, ha, pc, -⟩ := tz.1.pg (p := pg n) h1
      have hget : ((fl V g π).map (adr L))[n]? = some a := by rw [List.getElem?_map, h3]; show some (adr L t) = _; rw [adr_eq (by rw [h4]; exact ha)]
      have en : ((Vd V g (Dx V ix n 0)).P (pg n)).es.length = (V.P (pg n)).es.length := tgL_len
      have l7 := pc.le
      rw [en] at l7
      have key : ∃ s1, kX10_tighten_34 (kX10_tighten_8 F) FU 27 (nI (su (fun i => ra V (pg i)) n) - nI (su (fun i => rb V g (pg i)) n)) (nI n) a 0 σ = kX10_tighten_8 F 27 (nI (su (fun i => ra V (pg i)) (n + 1)) - nI (su (fun i => rb V g (pg i)) (n + 1))) (nI (n + 1)) s1 ∧ Tz N U V g π E L E8 σ0 s1 (Vd V g (Dx V ix (n + 1) 0)) := by
        cases hl : (V.P (pg n)).lf with
        | false =>
          obtain ⟨s1, g1, g2⟩ := c_tt34 (k8 := kX10_tighten_8 F) (A := su (fun i => ra V (pg i)) n) (B := su (fun i => rb V g (pg i)) n) lo hv w inj h1 ha h2 hl (V.P (pg n)).es.length FU 0 σ (FU_gt (by omega)) (by omega) tz
          exact ⟨s1, g1, g2⟩
        | true =>
          refine ⟨σ, ?_, by rw [← Vd_nx inj h1 h2 (k := 0) (fun y => by rw [hl] at y; cases y)]; exact tz⟩
          have e1 : su (fun i => ra V (pg i)) (n + 1) = su (fun i => ra V (pg i)) n := by
            show su (fun i => ra V (pg i)) n + ra V (pg n) = _
            unfold ra; rw [if_pos hl]; rfl
          have e2 : su (fun i => rb V g (pg i)) (n + 1) = su (fun i => rb V g (pg i)) n := by
            show su (fun i => rb V g (pg i)) n + rb V g (pg n) = _
            unfold rb; rw [if_pos hl]; rfl
          rw [e1, e2, show FU = 999999 + 1 from rfl, kX10_tighten_34.eq_2, pc.n, bind_s, en]
          unfold kX10_tighten_87
          rw [nI_1]
          by_cases y : (V.P (pg n)).es.length = 0
          · rw [if_pos (by rw [y]; decide)]
          · rw [if_neg (show ¬ nI (V.P (pg n)).es.length ≤ 0 from nI_ge (show 0 < (V.P (pg n)).es.length by omega) (by omega)), pc.l, bind_s, bI_0', if_neg (show ¬ ¬ ((Vd V g (Dx V ix n 0)).P (pg n)).lf = true by show ¬ ¬ (V.P (pg n)).lf = true; rw [hl]; decide)]
      obtain ⟨s1, k1, k2⟩ := key
      obtain ⟨s2, g1, g2⟩ := c_tt8 lo hv w inj hpg (m - 1) F (n + 1) s1 (by omega) (by omega) k2
      refine ⟨s2, ?_, g2⟩
      rw [kX10_tighten_8.eq_2, gfr_ok wl.1.1, wl.1.2.2.2, bind_s, wl.2.1.c, sz, bind_s, if_neg (nI_ge (by omega) (by omega)), bind_s, wl.2.1.c, wl.2.1.at hget, bind_s, ckc_ok pc.1.1, k1]
      exact g1
/-- what a change of the tree leaves of the reference -/
def Ry (S S' : MS) : Prop := (∀ j, j = 1 ∨ j = 18 ∨ j = 26 ∨ j = 27 ∨ j = 29 → S'.1 j = S.1 j) ∧ (∀ x, x < 2 ∨ 23614 ≤ x → S'.1 0 x = S.1 0 x) ∧ (∀ k, k = 27 ∨ k = 28 ∨ k = 29 ∨ k = 32 ∨ k = 33 ∨ k = 44 ∨ k = 45 ∨ k = 52 → S'.2 k = S.2 k)
theorem Ry.rfl {S : MS} : Ry S S := ⟨fun _ _ => Eq.refl _, fun _ _ => Eq.refl _, fun _ _ => Eq.refl _⟩
theorem Ry.tr {S S1 S2 : MS} (h : Ry S S1) (k : Ry S1 S2) : Ry S S2 := ⟨fun j hj => (k.1 j hj).trans (h.1 j hj), fun x hx => (k.2.1 x hx).trans (h.2.1 x hx), fun j hj => (k.2.2 j hj).trans (h.2.2 j hj)⟩
theorem Ry.rk {S S1 : MS} (h : Rk S S1) : Ry S S1 := ⟨fun j hj => h.1 j (by omega), fun x _ => by rw [h.1 0 (by omega)], h.2⟩
theorem Ry.jq {S S1 : MS} (h : Jq S S1) : Ry S S1 := ⟨fun j hj => h.1.1 j (by unfold Rd; omega), h.2, fun k hk => h.1.2 k (by unfold Rb; omega)⟩
theorem Ry.up {S : MS} {x : Nat} {v : Int32} (h1 : 2 ≤ x) (h2 : x < 23614) : Ry S (r0 S (upd (S.1 0) x v)) := ⟨fun j hj => r0_j (by omega), fun y hy => by rw [r0_0, upd_n (by omega)], fun _ _ => Eq.refl _⟩
theorem r_tt17 {k8 : Int32 → Int32 → MS → Option (Int32 × MS)} (hv : Vw V) (w : Wf V g V.U) {p A B : Nat} (inj : ∀ p q, p < V.U → q < V.U → π p = π q → p = q) (hp : p < V.U) (hl : (V.P p).lf = false) : ∀ (m F k : Nat) (S : MS), m < F → k + m = (V.P p).es.length → RT (S.1 0) (Vd V g (Dx V π (π p) k)) π → Ry S0 S → ∃ S', r_tight_17 k8 F (nI (A + (((V.P p).es.take k).map (fun e => e.2.1)).sum) - nI (B + (((V.P p).es.take k).map (gv V g)).sum)) (nI (π p)) (nI k) S = k8 (nI (A + ra V p) - nI (B + rb V g p)) (nI (π p + 1)) S' ∧ RT (S'.1 0) (Vd V g (Dx V π (π p + 1) 0)) π ∧ Ry S0 S'
  | m, 0, _, _, h, _, _, _ => absurd h (Nat.not_lt_zero m)
  | 0, F + 1, k, S, _, hk, rt, ry => by
    have u := w.u
    obtain ⟨p1, rp⟩ := rt.2.2.1 p hp
    have p1 : π p < V.U := p1
    have en : ((Vd V g (Dx V π (π p) k)).P p).es.length = (V.P p).es.length := tgL_len
    have l7 := rp.2.2
    rw [List.length_map, en] at l7
    refine ⟨S, ?_, ?_, ry⟩
    · rw [List.take_of_length_le (by omega), r_tight_17.eq_2, rp.n (by omega), bind_s, List.length_map, en, if_pos (nI_le (by omega) (by omega))]
      unfold r_tight_70 ra rb
      rw [if_neg (by rw [hl]; decide), if_neg (by rw [hl]; decide), nI_1]
    · rw [← Vd_nx inj hp rfl (k := k) (fun _ => by omega)]; exact rt
  | m + 1, F + 1, k, S, hF, hk, rt, ry => by
    have u := w.u
    obtain ⟨p1, rp⟩ := rt.2.2.1 p hp
    have p1 : π p < V.U := p1
    have en : ((Vd V g (Dx V π (π p) k)).P p).es.length = (V.P p).es.length := tgL_len
    have l7 := rp.2.2
    rw [List.length_map, en] at l7
    obtain ⟨e, he⟩ : ∃ e, (V.P p).es[k]? = some e := ⟨_, List.getElem?_eq_getElem (by omega)⟩
    obtain ⟨d1, d2⟩ := Vd_st (g := g) (ix := π) inj hp rfl hl he
    have sh : Sh V (Vd V g (Dx V π (π p) k)) := Vd_sh
    have sm : Sm V (Vd V g (Dx V π (π p) k)) := Vd_sm
    have he1 : ((Vd V g (Dx V π (π p) k)).P p).es[k]? = some e := d1
    obtain ⟨S1, f1, f2⟩ := r_gb (V := Vd V g (Dx V π (π p) k)) rt (sm.vw hv) (Vd_wf hv w) hp hl he1
    rw [gbl_sm sm, sh_tbl sh] at f1
    have f1 : r_farthestBelow S (nI (π p)) (nI k) = some (nI (gv V g e), S1) := f1
    generalize hX : Vd V g (Dx V π (π p) k) = X at *
    have hpX : p < X.U := by rw [← hX]; exact hp
    have rt1 : RT (S1.1 0) X π := by rw [f2.r0]; exact rt
    have rp1 := (rt1.2.2.1 p hpX).2
    have he' : ((X.P p).es.map (reE X π (X.P p)))[k]? = some (reE X π (X.P p) e) := by rw [List.getElem?_map, he1]; rfl
    have cx : Cq (fun q => q = π p) (S1.1 0) (upd (S1.1 0) (94 + 30 * π p + 2 + 4 * k + 1) (nI (gv V g e))) := by
      rw [show 94 + 30 * π p + 2 + 4 * k + 1 = 94 + 30 * π p + (2 + 4 * k + 1) by omega]
      exact Cq.up rfl (by omega)
    have rt2 : RT (upd (S1.1 0) (94 + 30 * π p + 2 + 4 * k + 1) (nI (gv V g e))) (X.sP p (mkP (X.P p).lf (X.P p).ce ((X.P p).es.set k (e.1, gv V g e, e.2.2)))) π := by
      refine rt1.pg (sm.vw hv) hpX cx ?_
      show RP _ _ (X.P p).lf (((X.P p).es.set k (e.1, gv V g e, e.2.2)).map _)
      rw [List.map_set]
      have e1 : (X.P p).es.map (reE X π (mkP (X.P p).lf (X.P p).ce ((X.P p).es.set k (e.1, gv V g e, e.2.2)))) = (X.P p).es.map (reE X π (X.P p)) := List.map_congr_left (fun e _ => reE_s Sm.rfl rfl rfl (fun _ => rfl))
      rw [e1]
      exact rp1.let1 he'
    have rt3 : RT ((r0 S1 (upd (S1.1 0) (94 + 30 * π p + 2 + 4 * k + 1) (nI (gv V g e)))).1 0) (Vd V g (Dx V π (π p) (k + 1))) π := by
      rw [r0_0, d2]
      rw [← hX] at rt2 ⊢
      exact rt2
    have ry1 : Ry S0 S1 := ry.tr (Ry.rk f2.rk)
    obtain ⟨S2, g1, g2, g3⟩ := r_tt17 (k8 := k8) (A := A) (B := B) hv w inj hp hl m F (k + 1) (r0 S1 (upd (S1.1 0) (94 + 30 * π p + 2 + 4 * k + 1) (nI (gv V g e)))) (by omega) (by omega) rt3 (ry1.tr (Ry.up (by omega) (by omega)))
    refine ⟨S2, ?_, g2, g3⟩
    rw [take_sum he, take_sum he, ← Nat.add_assoc, ← Nat.add_assoc, ← i_sum] at g1
    have hlX : (X.P p).lf = false := by rw [← hX]; exact hl
    rw [r_tight_17.eq_2, rp.n (by omega), bind_s, List.length_map, en, if_neg (nI_ge (by omega) (by omega)), rp.l (by omega), bind_s, bI_0', if_pos (show ¬ (X.P p).lf = true by rw [hlX]; decide), f1, bd2_s, rp1.e1 (by omega) he', bind_s, show (1 : Int32) = nI 1 from rfl, r_letEntry_eq (by omega) (by omega) (by omega), bind_s, nI_add]
    exact g1
theorem r_tt8 (hv : Vw V) (w : Wf V g V.U) {ρ : Nat → Nat} (inj : ∀ p q, p < V.U → q < V.U → π p = π q → p = q) (hρ : ∀ q, q < V.U → ρ q < V.U ∧ π (ρ q) = q) (hπ : ∀ p, p < V.U → π p < V.U) : ∀ (m F q : Nat) (S : MS), m < F → q + m = 784 → RT (S.1 0) (Vd V g (Dx V π q 0)) π → Ry S0 S → ∃ S', r_tight_8 F (nI (su (fun i => if i < V.U then ra V (ρ i) else 0) q) - nI (su (fun i => if i < V.U then rb V g (ρ i) else 0) q)) (nI q) S = some (nI (su (fun i => if i < V.U then ra V (ρ i) else 0) 784) - nI (su (fun i => if i < V.U then rb V g (ρ i) else 0) 784), S') ∧ RT (S'.1 0) (Vd V g (Dx V π 784 0)) π ∧ Ry S0 S'
  | m, 0, _, _, h, _, _, _ => absurd h (Nat.not_lt_zero m)
  | m, F + 1, q, S, hF, hq, rt, ry => by
    have u := w.u
    by_cases z : m = 0
    · have : q = 784 := by omega
      subst this
      rw [r_tight_8.eq_2, if_pos (show (784 : Int32) ≤ nI 784 from by decide)]
      exact ⟨S, rfl, rt, ry⟩
    · rw [r_tight_8.eq_2, if_neg (show ¬ (784 : Int32) ≤ nI q from nI_ge (b := 784) (by omega) (by omega))]
      have key : ∃ S1, r_tight_17 (r_tight_8 F) FU (nI (su (fun i => if i < V.U then ra V (ρ i) else 0) q) - nI (su (fun i => if i < V.U then rb V g (ρ i) else 0) q)) (nI q) 0 S = r_tight_8 F (nI (su (fun i => if i < V.U then ra V (ρ i) else 0) (q + 1)) - nI (su (fun i => if i < V.U then rb V g (ρ i) else 0) (q + 1))) (nI (q + 1)) S1 ∧ RT (S1.1 0) (Vd V g (Dx V π (q + 1) 0)) π ∧ Ry S0 S1 := by
        have e1 : su (fun i => if i < V.U then ra V (ρ i) else 0) (q + 1) = su (fun i => if i < V.U then ra V (ρ i) else 0) q + (if q < V.U then ra V (ρ q) else 0) := rfl
        have e2 : su (fun i => if i < V.U then rb V g (ρ i) else 0) (q + 1) = su (fun i => if i < V.U then rb V g (ρ i) else 0) q + (if q < V.U then rb V g (ρ q) else 0) := rfl
        rw [e1, e2]
        by_cases y : q < V.U
        · rw [if_pos y, if_pos y]
          obtain ⟨h1, h2⟩ := hρ q y
          generalize ρ q = p at *
          subst h2
          cases hl : (V.P p).lf with
          | false =>
            obtain ⟨S1, g1, g2⟩ := r_tt17 (k8 := r_tight_8 F) (A := su (fun i => if i < V.U then ra V (ρ i) else 0) (π p)) (B := su (fun i => if i < V.U then rb V g (ρ i) else 0) (π p)) hv w inj h1 hl (V.P p).es.length FU 0 S (FU_gt (by have := w.len hv h1; omega)) (by omega) rt ry
            exact ⟨S1, g1, g2⟩
          | true =>
            obtain ⟨p1, rp⟩ := rt.2.2.1 p h1
            have p1 : π p < V.U := p1
            have en : ((Vd V g (Dx V π (π p) 0)).P p).es.length = (V.P p).es.length := tgL_len
            have l7 := rp.2.2
            rw [List.length_map, en] at l7
            refine ⟨S, ?_, by rw [← Vd_nx inj h1 rfl (k := 0) (fun y => by rw [hl] at y; cases y)]; exact rt, ry⟩
            unfold ra rb
            rw [if_pos hl, if_pos hl, Nat.add_zero, Nat.add_zero, show FU = 999999 + 1 from rfl, r_tight_17.eq_2, rp.n (by omega), bind_s, List.length_map, en]
            unfold r_tight_70
            rw [nI_1]
            by_cases y : (V.P p).es.length = 0
            · rw [if_pos (by rw [y]; decide)]
            · rw [if_neg (show ¬ nI (V.P p).es.length ≤ 0 from nI_ge (show 0 < (V.P p).es.length by omega) (by omega)), rp.l (by omega), bind_s, bI_0', if_neg (show ¬ ¬ ((Vd V g (Dx V π (π p) 0)).P p).lf = true by show ¬ ¬ (V.P p).lf = true; rw [hl]; decide)]
        · rw [if_neg y, if_neg y, Nat.add_zero, Nat.add_zero]
          have cnt : r_countOf S (nI q) = some (-1) := by rw [r_countOf_eq (by omega), rt.2.2.2.1 q (by show V.U ≤ q; omega) (by omega)]
          refine ⟨S, ?_, by rw [← Vd_gap (fun p hp h => by have := hπ p hp; omega)]; exact rt, ry⟩
          rw [show FU = 999999 + 1 from rfl, r_tight_17.eq_2, cnt, bind_s, if_pos (by decide)]
          unfold r_tight_70
          rw [nI_1]
      obtain ⟨S1, k1, k2, k3⟩ := key
      obtain ⟨S2, g1, g2, g3⟩ := r_tt8 hv w inj hρ hπ (m - 1) F (q + 1) S1 (by omega) (by omega) k2 k3
      exact ⟨S2, by rw [k1]; exact g1, g2, g3⟩
end TIGHT2
