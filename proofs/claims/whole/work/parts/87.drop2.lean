theorem map_eraseIdx' {α β : Type} {f : α → β} {l : List α} {k : Nat} : (l.map f).eraseIdx k = (l.eraseIdx k).map f := by
  refine List.ext_getElem? (fun i => ?_)
  rw [List.getElem?_eraseIdx, List.getElem?_map, List.getElem?_map, List.getElem?_map, List.getElem?_eraseIdx]
  split <;> rfl
section DR2
variable {σ : Hp} {S : MS} {E : Nat} {L : List Nat} {V : Vt} {π : Nat → Nat} {g : Gh} {t : Nat}
/-- the state without a thing, its pages as they were -/
def drV (V : Vt) (t : Nat) : Vt := (V.sW (up1 V.W t 0)).sT (V.T.filter (nt t))
theorem dr_hs {x : Nat} : hs (drV V t) x ↔ hs V x ∧ x ≠ t := by
  show (x < 40 ∧ up1 V.W t 0 x ≠ 0) ↔ _
  by_cases z : x = t
  · rw [z, up1_s]
    exact ⟨fun y => absurd rfl y.2, fun y => absurd rfl y.2⟩
  · rw [up1_n z]
    exact ⟨fun y => ⟨y, z⟩, fun y => y.1⟩
theorem tl_filter {a b : Nat} (ha : a ≠ t) (hb : b ≠ t) : ∀ T : List Ent, tl (T.filter (nt t)) a b = tl T a b
  | [] => rfl
  | e :: T => by
    have ih := tl_filter ha hb T
    by_cases z : nt t e = true
    · rw [List.filter_cons_of_pos z]
      show (if e.1 = a ∧ e.2.1 = b then some e.2.2 else tl (T.filter (nt t)) a b) = if e.1 = a ∧ e.2.1 = b then some e.2.2 else tl T a b
      rw [ih]
    · rw [List.filter_cons_of_neg z, ih]
      show _ = if e.1 = a ∧ e.2.1 = b then some e.2.2 else tl T a b
      rw [if_neg (fun y => z (nt_t.mpr ⟨by rw [y.1]; exact ha, by rw [y.2]; exact hb⟩))]
theorem dr_far {a b : Nat} (ha : a ≠ t) (hb : b ≠ t) : far (drV V t) a b = far V a b := by
  unfold far
  show (match tl (V.T.filter (nt t)) a b with | some f => f | none => apart V.M (up1 V.W t 0 a) (up1 V.W t 0 b)) = _
  rw [tl_filter ha hb, up1_n ha, up1_n hb]
  rfl
theorem dr_vw (hv : Vw V) : Vw (drV V t) := by
  obtain ⟨a1, a2, a3, a4, a5, a6⟩ := hv
  refine ⟨fun x hx => ?_, a2, a3, Nat.le_trans (List.length_filter_le _ _) a4, fun e he => ?_, a6.sublist List.filter_sublist⟩
  · show up1 V.W t 0 x = 0 ∨ isW (up1 V.W t 0 x)
    by_cases z : x = t
    · rw [z, up1_s]; exact Or.inl rfl
    · rw [up1_n z]; exact a1 x hx
  · have he : e ∈ V.T.filter (nt t) := he
    obtain ⟨m1, m2⟩ := List.mem_filter.mp he
    obtain ⟨n1, n2⟩ := nt_t.mp m2
    obtain ⟨b1, b2, b3⟩ := a5 e m1
    exact ⟨dr_hs.mpr ⟨b1, n1⟩, dr_hs.mpr ⟨b2, n2⟩, b3⟩
/-- it is taken out of its leaf -/
def reV (V : Vt) (t p k : Nat) : Vt := (drV V t).sP p (mkP true (V.P p).ce ((V.P p).es.eraseIdx k))
theorem mem_erase {l : List Ent} {k : Nat} {e0 x : Ent} (h : l[k]? = some e0) (hx : x ∈ l) (hn : x.1 ≠ e0.1) : x ∈ l.eraseIdx k := by
  obtain ⟨i, hi⟩ := List.getElem?_of_mem hx
  have ne : i ≠ k := fun z => by
    subst z
    rw [h] at hi
    cases hi
    exact hn rfl
  have hk := get_lt h
  have hil := get_lt hi
  rcases Nat.lt_or_ge i k with z | z
  · exact List.mem_of_getElem? (show (l.eraseIdx k)[i]? = some x by rw [List.getElem?_eraseIdx, if_pos z]; exact hi)
  · refine List.mem_of_getElem? (show (l.eraseIdx k)[i - 1]? = some x from ?_)
    rw [List.getElem?_eraseIdx, if_neg (by omega), show i - 1 + 1 = i by omega]
    exact hi
set_option maxHeartbeats 1000000 in
theorem Wf.rem (h : Wf V g V.U) {p k : Nat} {e0 : Ent} (hp : p < V.U) (hl : (V.P p).lf = true) (he : (V.P p).es[k]? = some e0) (h0 : e0.1 = t) (nc : ¬ isC V t) : Wf (reV V t p k) (mkGh g.ht g.pa (fun x => if x = t then none else g.lo x) g.ct) V.U := by
  have hk := get_lt he
  have em := List.mem_of_getElem? he
  have wp := h.2.1 p hp
  have lt0 : g.lo t = some p := by rw [← h0]; exact (wp.2.1 e0 em).2.2.2 hl
  have P1 : (reV V t p k).P p = mkP true (V.P p).ce ((V.P p).es.eraseIdx k) := sP_s
  have P0 : ∀ q, q ≠ p → (reV V t p k).P q = V.P q := fun q hq => by unfold reV; rw [sP_n hq]; rfl
  have eU : (reV V t p k).U = V.U := rfl
  have eR : (reV V t p k).R = V.R := rfl
  have eC : (reV V t p k).C = V.C := rfl
  have eh : ∀ x, hs (reV V t p k) x ↔ hs V x ∧ x ≠ t := fun x => dr_hs
  generalize reV V t p k = V' at *
  have ces : ∀ q, (V'.P q).ce = (V.P q).ce := fun q => by
    by_cases z : q = p
    · rw [z, P1]; rfl
    · rw [P0 q z]
  have lfs : ∀ q, (V'.P q).lf = (V.P q).lf := fun q => by
    by_cases z : q = p
    · rw [z, P1, hl]; rfl
    · rw [P0 q z]
  have er : ((V.P p).es.eraseIdx k).length = (V.P p).es.length - 1 := by rw [List.length_eraseIdx, if_pos hk]
  have nt1 : ∀ e ∈ (V.P p).es.eraseIdx k, e ∈ (V.P p).es ∧ e.1 ≠ t := fun e hx => by
    obtain ⟨i, hi⟩ := List.getElem?_of_mem hx
    rw [List.getElem?_eraseIdx] at hi
    have nd := wp.2.2.1.2 hl
    by_cases z : i < k
    · rw [if_pos z] at hi
      exact ⟨List.mem_of_getElem? hi, fun y => absurd (map_get_inj nd hi he (y.trans h0.symm)) (by omega)⟩
    · rw [if_neg z] at hi
      exact ⟨List.mem_of_getElem? hi, fun y => absurd (map_get_inj nd hi he (y.trans h0.symm)) (by omega)⟩
  have nt2 : ∀ q, q < V.U → q ≠ p → ∀ e ∈ (V.P q).es, e.1 ≠ t := fun q hq hn e hx y => by
    cases z : (V.P q).lf with
    | false => exact nc ⟨q, hq, z, e, hx, y⟩
    | true =>
      have := ((h.2.1 q hq).2.1 e hx).2.2.2 z
      rw [y, lt0] at this
      exact hn (Option.some.inj this).symm
  have cent : ∀ c, (V.P p).ce = some c → c ≠ t := fun c hc y => by
    by_cases z : p = V.R
    · rw [z, h.1.2] at hc; cases hc
    · obtain ⟨c1, c2, e, c3, c4⟩ := wp.2.2.2.2 z
      have := (((h.2.1 _ c1).2.1 e c3).2.2.1 c2).2.2.1
      rw [c4, hc] at this
      cases this
      exact nc ⟨_, c1, c2, e, c3, y⟩
  refine ⟨⟨by rw [eR, eU]; exact h.1.1, by rw [eR, ces]; exact h.1.2⟩, fun q hq => ?_, fun x q hq => ?_, ?_⟩
  · rw [eU] at hq
    obtain ⟨⟨b1, b2, b3, b4, b5⟩, b6, ⟨b7, b8⟩, b9, b10⟩ := h.2.1 q hq
    have par : q ≠ V.R → g.pa q < V.U ∧ (V'.P (g.pa q)).lf = false ∧ ∃ e ∈ (V'.P (g.pa q)).es, e.2.2 = q := fun z => by
      obtain ⟨c1, c2, e, c3, c4⟩ := b10 z
      rw [lfs]
      refine ⟨c1, c2, e, ?_, c4⟩
      rw [P0 _ (fun y => by rw [y, hl] at c2; cases c2)]
      exact c3
    by_cases z : q = p
    · subst z
      unfold Wp
      rw [P1, eU, eR, eC]
      refine ⟨⟨⟨fun _ => b1.mp hl, fun _ => rfl⟩, ?_, fun y => ?_, fun y => (by cases y), b5⟩, fun e hx => ?_, ⟨fun y => (by cases y), fun _ => (b8 hl).sublist ((List.eraseIdx_sublist _ _).map _)⟩, fun _ c hc => ?_, par⟩
      · show ((V.P q).es.eraseIdx k).length ≤ _
        rw [er]
        have := b2
        split at this <;> omega
      · obtain ⟨c1, c2, e, c3, c4⟩ := b10 y
        have hc := (((h.2.1 _ c1).2.1 e c3).2.2.1 c2).2.2.1
        rw [c4] at hc
        obtain ⟨e2, m1, m2⟩ := b9 hl _ hc
        have := mem_erase he m1 (by rw [h0, m2]; exact cent _ hc)
        exact List.length_pos_of_mem this
      · obtain ⟨m1, m2⟩ := nt1 e hx
        obtain ⟨c1, c2, c3, c4⟩ := b6 e m1
        refine ⟨(eh _).mpr ⟨c1, m2⟩, c2, fun y => (by cases y), fun _ => ?_⟩
        show (if e.1 = t then none else g.lo e.1) = _
        rw [if_neg m2]; exact c4 hl
      · obtain ⟨e2, m1, m2⟩ := b9 hl c hc
        exact ⟨e2, mem_erase he m1 (by rw [h0, m2]; exact cent _ hc), m2⟩
    · unfold Wp
      rw [P0 q z, eU, eR, eC]
      refine ⟨⟨b1, b2, b3, b4, b5⟩, fun e hx => ?_, ⟨b7, b8⟩, b9, par⟩
      obtain ⟨c1, c2, c3, c4⟩ := b6 e hx
      have ne := nt2 q hq z e hx
      refine ⟨(eh _).mpr ⟨c1, ne⟩, c2, fun y => by rw [ces]; exact c3 y, fun y => ?_⟩
      show (if e.1 = t then none else g.lo e.1) = _
      rw [if_neg ne]; exact c4 y
  · have hq : (if x = t then none else g.lo x) = some q := hq
    by_cases z : x = t
    · rw [if_pos z] at hq; cases hq
    · rw [if_neg z] at hq
      obtain ⟨c1, c2, c3, e, c4, c5⟩ := h.2.2.1 x q hq
      rw [eU, lfs]
      refine ⟨c1, c2, c3, e, ?_, c5⟩
      by_cases y : q = p
      · rw [y, P1]; rw [y] at c4
        exact mem_erase he c4 (by rw [h0, c5]; exact z)
      · rw [P0 q y]; exact c4
  · obtain ⟨d1, d2, d3, d4⟩ := h.2.2.2
    refine ⟨by rw [eU]; exact d1, ?_, ?_, by rw [eR]; exact d4⟩
    · rw [eU]
      exact d2.trans (su_congr _ (fun i _ => by rw [lfs]))
    · rw [eU]
      have s1 : nen V V.U = nen V' V.U + 1 := by
        have := su_upd (h := fun q => if (V.P q).lf = true then (V.P q).es.length else 0) (f := fun q => if (V'.P q).lf = true then (V'.P q).es.length else 0) (k := p) (d := 1) (by
          show (if (V.P p).lf = true then (V.P p).es.length else 0) = (if (V'.P p).lf = true then (V'.P p).es.length else 0) + 1
          rw [lfs, if_pos hl, if_pos hl, P1]
          show _ = ((V.P p).es.eraseIdx k).length + 1
          rw [er]; omega) (fun i hi => by
          show _ = (if (V'.P i).lf = true then (V'.P i).es.length else 0)
          rw [P0 i hi]) V.U
        rw [if_pos hp] at this
        exact this
      have s2 : nth g = nth (mkGh g.ht g.pa (fun x => if x = t then none else g.lo x) g.ct) + 1 := by
        have := su_upd (h := fun x => if (g.lo x).isSome = true then 1 else 0) (f := fun x => if (if x = t then none else g.lo x).isSome = true then 1 else 0) (k := t) (d := 1) (by
          show (if (g.lo t).isSome = true then 1 else 0) = (if (if t = t then none else g.lo t).isSome = true then 1 else 0) + 1
          rw [if_pos (rfl : t = t), lt0]; rfl) (fun i hi => by
          show _ = (if (if i = t then none else g.lo i).isSome = true then 1 else 0)
          rw [if_neg hi]) 40
        rw [if_pos (h.2.2.1 t p lt0).1] at this
        exact this
      omega
theorem c_takeFromLeaf (ts : Ts σ E L (drV V t)) (w : Wf V g V.U) (ht : t < 40) {p k : Nat} {e0 : Ent} (hp : p < V.U) (hl : (V.P p).lf = true) (he : (V.P p).es[k]? = some e0) (h0 : e0.1 = t) (hu : ∀ q, q < V.U → (V.P q).lf = true → ∀ e ∈ (V.P q).es, e.1 = t → q = p) (hk0 : ∀ (j : Nat) (e : Ent), j < k → (V.P p).es[j]? = some e → e.1 ≠ t) : ∃ σ', kX9_takeFromLeaf σ 23 (nI t) = some σ' ∧ Ts σ' E L (reV V t p k) ∧ Tq σ E L σ' E L := by
  have u780 := w.u
  have st := ts.1
  have tv := ts.2.1
  have pe : pin (V.P p).es t = some k := by
    have sp := pin_spec (V.P p).es t
    cases q : pin (V.P p).es t with
    | none =>
      rw [q] at sp
      exact absurd h0 (sp e0 (List.mem_of_getElem? he))
    | some j =>
      rw [q] at sp
      obtain ⟨⟨e, m1, m2⟩, m3⟩ := sp
      rcases Nat.lt_trichotomy j k with z | z | z
      · exact absurd m2 (hk0 j e z m1)
      · rw [z]
      · exact absurd h0 (m3 k e0 z he)
  have e40 : ∀ q, q < V.U → ∀ e ∈ (V.P q).es, e.1 < 2 ^ 31 := fun q hq e he => by have := (w.es hq e he).1.1; omega
  unfold kX9_takeFromLeaf
  have key : ∀ (m F i : Nat), m < F → i + m = p → ∃ σ', kX9_takeFromLeaf_2 F 23 (nI t) (nI i) σ = some σ' ∧ Ts σ' E L (reV V t p k) ∧ Tq σ E L σ' E L := by
    intro m
    induction m with
    | zero =>
      intro F i hF hi
      obtain ⟨F, rfl⟩ : ∃ F', F = F' + 1 := ⟨F - 1, by omega⟩
      have : i = p := by omega
      subst this
      obtain ⟨a, h1, h2, h3⟩ := st.pg (p := i) hp
      have h2 : PC σ a (V.P i) := h2
      have h7 := h2.le
      have hk := get_lt he
      rw [kX9_takeFromLeaf_2.eq_2, tv.st, bind_s, st.u, bind_s, if_neg (show ¬ nI (drV V t).U ≤ nI i from nI_ge hp (show V.U < 2 ^ 31 by omega)), bind_s, st.cs, h3, bind_s, h2.l, bind_s, ite_bI, if_pos hl, ckd_ok h2.1.1, c_placeIn h2 (by omega) (e40 i hp), bind_s, pe]
      unfold kX9_takeFromLeaf_38
      obtain ⟨σ', g1, g2, g3⟩ := c_removeEntry h2 hk
      have g1 : kX3_removeEntry σ a (o2i (some k)) = some σ' := g1
      rw [if_neg (show ¬ o2i (some k) = -1 from fun y => (nI_m1 (by omega)).mp y), ckd_ok h2.1.1, g1, bind_s]
      rw [hl] at g2
      obtain ⟨t1, q1⟩ := ts.pg (p := i) hp h1 g3 g2
      exact ⟨σ', rfl, t1, q1⟩
    | succ m ih =>
      intro F i hF hi
      obtain ⟨F, rfl⟩ : ∃ F', F = F' + 1 := ⟨F - 1, by omega⟩
      obtain ⟨a, h1, h2, h3⟩ := st.pg (p := i) (show i < V.U by omega)
      have h2 : PC σ a (V.P i) := h2
      rw [kX9_takeFromLeaf_2.eq_2, tv.st, bind_s, st.u, bind_s, if_neg (show ¬ nI (drV V t).U ≤ nI i from nI_ge (show i < V.U by omega) (show V.U < 2 ^ 31 by omega)), bind_s, st.cs, h3, bind_s, h2.l, bind_s, ite_bI]
      unfold kX9_takeFromLeaf_38
      by_cases z : (V.P i).lf = true
      · have none : pin (V.P i).es t = none := by
          have sp := pin_spec (V.P i).es t
          cases q : pin (V.P i).es t with
          | none => rfl
          | some j =>
            rw [q] at sp
            obtain ⟨⟨e, m1, m2⟩, -⟩ := sp
            have := hu i (by omega) z e (List.mem_of_getElem? m1) m2
            omega
        rw [if_pos z, ckd_ok h2.1.1, c_placeIn h2 (by omega) (e40 i (by omega)), bind_s, none, if_pos (show o2i Option.none = -1 from rfl), nI_1]
        exact ih F (i + 1) (by omega) (by omega)
      · rw [if_neg z, if_pos rfl, nI_1]
        exact ih F (i + 1) (by omega) (by omega)
  exact key p FU 0 (FU_gt (by omega)) (by omega)
set_option maxHeartbeats 1000000 in
/-- a thing goes out on both sides -/
theorem jc_out {σ0 : Hp} {S0 : MS} {E0 : Nat} {L0 : List Nat} (h : JC σ S E L V π g) (ht : hs V t) (kq : Kq σ0 E0 L0 σ E L) (jq : Jq S0 S) : ∃ v σ1 S1, kX11_takeOut σ 2 (nI t) = some (v, σ1) ∧ r_dropNow S (nI t) = some S1 ∧ ((v = 0 ∧ Jr σ0 S0 E0 L0 (drV V t) σ1 S1) ∨ (v = 1 ∧ Lk σ1 ∧ σ1.kd 23 = 19 ∧ ∃ σ2, kX9_buildAnew σ1 23 = some σ2 ∧ Jr σ0 S0 E0 L0 (drV V t) σ2 S1)) := by
  obtain ⟨co, rt, hv, wf, hg⟩ := h
  have t40 := ht.1
  have u780 := wf.u
  obtain ⟨s1, g1, g2, g3⟩ := c_forget co.1 hv ht
  obtain ⟨co1, kq1⟩ := co.hd g3 g2
  obtain ⟨s2, k1, k2, k3⟩ := co1.follow hv (dr_vw hv)
  have co1 : Co s1 E L (drV V t) V := co1
  have k2 : Co s2 E L (drV V t) (drV V t) := k2
  have lk1 := co1.2.2.2.2.2
  have lk2 := k2.2.2.2.2.2
  have e40 : ∀ q, q < V.U → ∀ e ∈ (V.P q).es, e.1 < 40 := fun q hq e he => (wf.es hq e he).1.1
  have cls : kX11_takeOut σ 2 (nI t) = (kX9_hasCentre s2 23 (nI t)).bind (fun v7 => if v7 = 0 then (kX9_takeFromLeaf s2 23 (nI t)).bind (fun σ9 => some (0, σ9)) else some (1, s2)) := by
    unfold kX11_takeOut
    rw [co.2.2.2.2.2.f0, bind_s, co.1.cs, g1, bind_s, lk1.f2, bind_s, lk1.f0, bind_s, ckd_ok co1.2.2.2.1.1.1.1, k1, bind_s, lk2.f3, bind_s, ckd_ok k2.2.1.1.1]
    congr 1
    funext v7
    by_cases z : v7 = 0
    · rw [if_pos z, if_pos z, bind_s, ckd_ok k2.2.1.1.1]
      rfl
    · rw [if_neg z, if_neg z]; rfl
  -- the reference's words and told ones
  have rest : ∀ T : MS, RW (T.1 0) 2 V → ∃ f, (wr T 0 (6 + nI t) 0).bind (fun S1 => r_forgetTold S1 (nI t)) = some (r0 T f) ∧ RW f 2 (drV V t) ∧ ∀ x, (x < 3 ∨ 94 ≤ x) → f x = T.1 0 x := by
    intro T hT
    obtain ⟨⟨b1, b2, b3⟩, b4, b5⟩ := hT
    have l16 := hv.2.2.2.1
    rw [show (6 : Int32) = nI 6 from rfl, nI_add, wr_r0 (by omega), bind_s]
    obtain ⟨f, f1, f2, f3, f4⟩ := r_forgetTold_eq (S := r0 T (upd (T.1 0) (6 + t) 0)) (V := V) (t := t) hv (by rw [r0_0, upd_n (by omega)]; exact b3) (fun k e he => by
      have := get_lt he
      rw [r0_0]
      exact TC.keep (f := T.1 0) (b5 k e he) (fun x q1 q2 => upd_n (by omega))) t40
    rw [r0_0] at f4
    refine ⟨f, by rw [f1, r0_r0], ⟨⟨?_, ?_, f2⟩, fun x hx => ?_, fun k e he => f3 k e he⟩, fun x hx => by rw [f4 x (by omega) (by omega), upd_n (by omega)]⟩
    · rw [f4 _ (by omega) (by omega), upd_n (by omega)]; exact b1
    · rw [f4 _ (by omega) (by omega), upd_n (by omega)]; exact b2
    · rw [f4 _ (by omega) (by omega)]
      show upd (T.1 0) (6 + t) 0 (6 + x) = nI (up1 V.W t 0 x)
      by_cases z : x = t
      · rw [z, upd_s, up1_s]; rfl
      · rw [upd_n (by omega), up1_n z]; exact b4 x hx
  have c1 := c_hasCentre (t := t) k2.1 k2.2.1.1.1 k2.2.1.2.1 t40 e40
  have c2 := r_isCentre_eq rt wf t40 e40
  by_cases z : isC V t
  · -- its tree is built anew
    rw [cls, c1.1 z, bind_s, if_neg (by decide)]
    obtain ⟨f, r1, r2, r3⟩ := rest S rt.1
    obtain ⟨σ2, S2, y1, y2, y3⟩ := jc_build (S := r0 S f) (σ0 := σ0) (S0 := S0) (E0 := E0) (L0 := L0) k2 (dr_vw hv) (by rw [r0_0]; exact r2) ((kq.tr kq1).tr k3) (jq.tr ⟨Rn.r0 (Or.inl rfl), fun x hx => by rw [r0_0]; exact r3 x (by omega)⟩)
    refine ⟨1, s2, S2, rfl, ?_, Or.inr ⟨rfl, lk2, k2.2.1.1.1, σ2, y1, y3⟩⟩
    unfold r_dropNow r_dropNow_15
    rw [c2.1 z, bind_s, if_neg (by decide)]
    cases q : wr S 0 (6 + nI t) 0 with
    | none => rw [q] at r1; cases r1
    | some T =>
      rw [q, bind_s] at r1
      rw [bind_s, r1, bind_s, if_neg (by decide), y2, bind_s]
  · -- it is taken out of its leaf
    have hlo := hg t
    rw [decide_eq_true ht] at hlo
    obtain ⟨p, hp⟩ := Option.isSome_iff_exists.mp hlo
    obtain ⟨-, p2, p3, x, p4, p5⟩ := wf.2.2.1 t p hp
    have sp := pin_spec (V.P p).es t
    cases q : pin (V.P p).es t with
    | none =>
      rw [q] at sp
      exact absurd p5 (sp x p4)
    | some k =>
      rw [q] at sp
      obtain ⟨⟨e0, m1, m2⟩, m3⟩ := sp
      have hu : ∀ q, q < V.U → (V.P q).lf = true → ∀ e ∈ (V.P q).es, e.1 = t → q = p := fun q hq hl e he hh => by
        have := ((wf.2.1 q hq).2.1 e he).2.2.2 hl
        rw [hh, hp] at this
        exact (Option.some.inj this).symm
      obtain ⟨σ1, y1, y2, y3⟩ := c_takeFromLeaf k2.ts wf t40 p2 p3 m1 m2 hu m3
      rw [cls, c1.2 z, bind_s, if_pos rfl, y1, bind_s]
      -- the reference
      obtain ⟨v1, v2⟩ := rt.2.2.1 p p2
      have hk := get_lt m1
      have ho := r_holderOf_eq rt wf e40 t40 p2 p3 m1 m2 hu m3
      obtain ⟨f1, n1, n2, n3⟩ := r_remove_eq (S := pf S 14 (nI k)) (q := π p) (k := k) v2 (by omega) (by rw [List.length_map]; exact hk)
      have wf1 := wf.rem p2 p3 m1 m2 z
      have cx : Cq (fun q => q = π p) (S.1 0) f1 := fun x hx => n3 x (hx _ rfl)
      have l7 := v2.2.2
      rw [List.length_map] at l7
      have len1 : (((V.P p).es.map (reE V π (V.P p))).eraseIdx k).length = (V.P p).es.length - 1 := by rw [List.length_eraseIdx, List.length_map, if_pos hk]
      -- nothing goes further
      have stop62 : ∀ T : MS, T.1 0 = f1 → r_takeOut_62 FU T = some T := by
        intro T hT
        have r2 : rd T 0 2 = some (nI (π V.R)) := by
          rw [show (2 : Int32) = nI 2 from rfl, rd_r0 (by omega), hT, cx 2 (fun r _ => by omega)]
          exact congrArg some rt.2.1
        have hR := wf.1.1
        obtain ⟨w1, w2⟩ := rt.2.2.1 V.R hR
        rw [show FU = 999999 + 1 from rfl, r_takeOut_62.eq_2, r2, bind_s]
        by_cases y : V.R = p
        · have w3 : RP (T.1 0) (94 + 30 * π V.R) (V.P p).lf (((V.P p).es.map (reE V π (V.P p))).eraseIdx k) := by rw [hT, y]; exact n2
          rw [w3.l (by omega), bind_s, ite_bI, if_pos p3]
        · have w3 : RP (T.1 0) (94 + 30 * π V.R) (V.P V.R).lf ((V.P V.R).es.map (reE V π (V.P V.R))) := by
            rw [hT]
            exact cx.rp w2 (fun v => y (rt.2.2.2.2.1 _ _ hR p2 v))
          rw [w3.l (by omega), bind_s, ite_bI]
          by_cases u : (V.P V.R).lf = true
          · rw [if_pos u]
          · have l2 := (wf.2.1 V.R hR).1.2.2.2.1 (by simpa using u) rfl
            have l72 := w3.2.2
            rw [List.length_map] at l72
            rw [if_neg u, bind_s, w3.n (by omega), bind_s, List.length_map, if_neg (fun v => by
              have := (nI_eq (a := (V.P V.R).es.length) (b := 1) (by omega) (by omega)).mp v
              omega)]
      have out : r_takeOut S (nI t) = some (r0 (pf S 14 (nI k)) f1) := by
        unfold r_takeOut
        rw [ho, bd2_s, pf_s, n1, bind_s, show FU = 999999 + 1 from rfl, r_takeOut_17.eq_2]
        have w3 : RP ((r0 (pf S 14 (nI k)) f1).1 0) (94 + 30 * π p) (V.P p).lf (((V.P p).es.map (reE V π (V.P p))).eraseIdx k) := by rw [r0_0]; exact n2
        have r2 : rd (r0 (pf S 14 (nI k)) f1) 0 2 = some (nI (π V.R)) := by
          rw [show (2 : Int32) = nI 2 from rfl, rd_r0 (by omega), r0_0, cx 2 (fun r _ => by omega)]
          exact congrArg some rt.2.1
        rw [w3.n (by omega), bind_s, len1]
        by_cases y : (V.P p).es.length - 1 = 0
        · have pR : p = V.R := Classical.byContradiction fun v => by
            have := (wf1.2.1 p p2).1.2.2.1 v
            rw [show (reV V t p k).P p = mkP true (V.P p).ce ((V.P p).es.eraseIdx k) from sP_s] at this
            have this : 0 < ((V.P p).es.eraseIdx k).length := this
            rw [List.length_eraseIdx, if_pos hk] at this
            omega
          rw [y, if_pos (show nI 0 = 0 from rfl), r2, bind_s, if_pos (by rw [pR]), stop62 _ r0_0]
        · rw [if_neg (nI_ne0 (by omega) (by omega)), stop62 _ r0_0]
      have rwT : RW ((r0 (pf S 14 (nI k)) f1).1 0) 2 V := by rw [r0_0]; exact cx.rw hv rt.1
      obtain ⟨f, r1, r2, r3⟩ := rest (r0 (pf S 14 (nI k)) f1) rwT
      rw [r0_0] at r3
      rw [r0_r0] at r1
      refine ⟨0, σ1, r0 (pf S 14 (nI k)) f, rfl, ?_, Or.inl ⟨rfl, ?_⟩⟩
      · unfold r_dropNow r_dropNow_15
        rw [c2.2 z, bind_s, if_pos rfl, out, bind_s]
        cases q : wr (r0 (pf S 14 (nI k)) f1) 0 (6 + nI t) 0 with
        | none => rw [q] at r1; cases r1
        | some T =>
          rw [q, bind_s] at r1
          rw [bind_s, r1, bind_s, if_pos rfl]
      · obtain ⟨co3, kq3⟩ := k2.tree y2 y3 ⟨rfl, rfl, rfl, rfl⟩
        refine ⟨E, L, reV V t p k, π, _, ⟨co3, ?_, Sm.vw (V := drV V t) ⟨rfl, rfl, rfl, rfl⟩ (dr_vw hv), wf1, fun x => ?_⟩, ((kq.tr kq1).tr k3).tr kq3, jq.tr ⟨(Rn.pf ⟨by omega, by omega⟩).tr (Rn.r0 (Or.inl rfl)), fun x hx => by rw [r0_0, r3 x (by omega)]; exact cx x (fun r hr => by omega)⟩, ⟨rfl, rfl, rfl, rfl⟩⟩
        · rw [r0_0]
          obtain ⟨-, a2, a3, a4, a5, a6⟩ := rt
          have nt0 : ∀ q, q < V.U → ∀ e ∈ ((reV V t p k).P q).es, e.1 ≠ t := fun q hq e he => ((dr_hs (V := V) (t := t)).mp (((wf1.2.1 q hq).2.1 e he).1)).2
          have cen : ∀ q c, q < V.U → (V.P q).ce = some c → c ≠ t := fun q c hq hc y => by
            by_cases v : q = V.R
            · rw [v, wf.1.2] at hc; cases hc
            · obtain ⟨c1, c2, e, c3, c4⟩ := (wf.2.1 q hq).2.2.2.2 v
              have := (((wf.2.1 _ c1).2.1 e c3).2.2.1 c2).2.2.1
              rw [c4, hc] at this
              cases this
              exact z ⟨_, c1, c2, e, c3, y⟩
          have re : ∀ (q : Nat) (P : Pg) (e : Ent), q < V.U → P.ce = (V.P q).ce → P.lf = (V.P q).lf → e.1 ≠ t → reE (reV V t p k) π P e = reE V π (V.P q) e := fun q P e hq hc hl he => by
            unfold reE
            rw [wy_cw, wy_cw, hc, hl]
            congr 3
            cases y : (V.P q).ce with
            | none => rfl
            | some c => exact dr_far (cen q c hq y) he
          refine ⟨r2, by rw [r3 2 (by omega), cx 2 (fun r _ => by omega)]; exact a2, fun q hq => ⟨(a3 q hq).1, ?_⟩, fun q hq hq2 => ?_, a5, a6⟩
          · by_cases y : q = p
            · rw [y] at hq ⊢
              have e1 : ((reV V t p k).P p) = mkP true (V.P p).ce ((V.P p).es.eraseIdx k) := sP_s
              have nt1 := nt0 p hq
              rw [e1] at nt1 ⊢
              have e2 : ((V.P p).es.eraseIdx k).map (reE (reV V t p k) π (mkP true (V.P p).ce ((V.P p).es.eraseIdx k))) = ((V.P p).es.map (reE V π (V.P p))).eraseIdx k := by
                rw [map_eraseIdx']
                exact List.map_congr_left (fun e he => re p _ e hq rfl (by rw [p3]; rfl) (nt1 e he))
              show RP f _ true (((V.P p).es.eraseIdx k).map _)
              rw [e2, ← p3]
              exact n2.keep (fun x q1 q2 => r3 x (by omega))
            · have e1 : ((reV V t p k).P q) = V.P q := by unfold reV; rw [sP_n y]; rfl
              have nt1 := nt0 q hq
              rw [e1] at nt1 ⊢
              rw [List.map_congr_left (fun e he => re q _ e hq rfl rfl (nt1 e he))]
              exact (cx.rp (a3 q hq).2 (fun v => y (a5 _ _ hq p2 v))).keep (fun x q1 q2 => r3 x (by omega))
          · have hq : V.U ≤ q := hq
            rw [r3 _ (by omega), cx _ (fun r hr => by omega)]
            exact a4 q hq hq2
        · show (if x = t then none else g.lo x).isSome = _
          by_cases y : x = t
          · rw [if_pos y, decide_eq_false (fun v : hs (reV V t p k) x => ((dr_hs (V := V) (t := t)).mp v).2 y)]; rfl
          · rw [if_neg y, hg x]
            by_cases v : hs V x
            · rw [decide_eq_true v, decide_eq_true (show hs (reV V t p k) x from dr_hs.mpr ⟨v, y⟩)]
            · rw [decide_eq_false v, decide_eq_false (fun u : hs (reV V t p k) x => v (dr_hs.mp u).1)]
end DR2
