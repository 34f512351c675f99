-- what holds of the tree: heights, parents, leaves of things, how many pages a level has
def Gh : Type := (Nat → Nat) × (Nat → Nat) × (Nat → Option Nat) × (Nat → Nat)
def Gh.ht (g : Gh) : Nat → Nat := g.1
def Gh.pa (g : Gh) : Nat → Nat := g.2.1
def Gh.lo (g : Gh) : Nat → Option Nat := g.2.2.1
def Gh.ct (g : Gh) : Nat → Nat := g.2.2.2
def mkGh (a b : Nat → Nat) (c : Nat → Option Nat) (d : Nat → Nat) : Gh := (a, b, c, d)
def Wp (V : Vt) (g : Gh) (o p : Nat) : Prop := (((V.P p).lf = true ↔ g.ht p = 0) ∧ (V.P p).es.length ≤ V.C + (if p = o then 1 else 0) ∧ (p ≠ V.R → 0 < (V.P p).es.length) ∧ ((V.P p).lf = false → p = V.R → 2 ≤ (V.P p).es.length) ∧ g.ht p ≤ g.ht V.R) ∧ (∀ e ∈ (V.P p).es, hs V e.1 ∧ e.2.1 ≤ 99 * g.ht p ∧ ((V.P p).lf = false → e.2.2 < V.U ∧ g.ht e.2.2 + 1 = g.ht p ∧ (V.P e.2.2).ce = some e.1 ∧ g.pa e.2.2 = p ∧ e.2.2 ≠ V.R) ∧ ((V.P p).lf = true → g.lo e.1 = some p)) ∧ (((V.P p).lf = false → ((V.P p).es.map (fun e => e.2.2)).Nodup) ∧ ((V.P p).lf = true → ((V.P p).es.map (fun e => e.1)).Nodup)) ∧ ((V.P p).lf = true → ∀ c, (V.P p).ce = some c → ∃ e ∈ (V.P p).es, e.1 = c) ∧ (p ≠ V.R → g.pa p < V.U ∧ (V.P (g.pa p)).lf = false ∧ ∃ e ∈ (V.P (g.pa p)).es, e.2.2 = p)
def nlv (V : Vt) (n : Nat) : Nat := su (fun p => if (V.P p).lf = true then 1 else 0) n
def nen (V : Vt) (n : Nat) : Nat := su (fun p => if (V.P p).lf = true then (V.P p).es.length else 0) n
def nth (g : Gh) : Nat := su (fun t => if (g.lo t).isSome = true then 1 else 0) 40
def Wc (V : Vt) (g : Gh) : Prop := V.U = su g.ct 40 ∧ g.ct 0 = nlv V V.U ∧ nen V V.U = nth g ∧ g.ct 0 ≤ 39 ∧ (∀ h, h < g.ht V.R → g.ct (h + 1) + 1 ≤ g.ct h) ∧ (∀ h, g.ht V.R < h → g.ct h = 0) ∧ 0 < g.ct (g.ht V.R)
def Wf (V : Vt) (g : Gh) (o : Nat) : Prop := (V.R < V.U ∧ (V.P V.R).ce = none) ∧ (∀ p, p < V.U → Wp V g o p) ∧ (∀ t p, g.lo t = some p → t < 40 ∧ p < V.U ∧ (V.P p).lf = true ∧ ∃ e ∈ (V.P p).es, e.1 = t) ∧ Wc V g
section WF
variable {V : Vt} {g : Gh} {o p : Nat}
theorem su_mono {f h : Nat → Nat} : ∀ n, (∀ i, i < n → f i ≤ h i) → su f n ≤ su h n
  | 0, _ => Nat.le_refl _
  | n + 1, q => by
    unfold su
    have := su_mono n (fun i hi => q i (by omega))
    have := q n (by omega)
    omega
theorem su_congr {f h : Nat → Nat} : ∀ n, (∀ i, i < n → f i = h i) → su f n = su h n
  | 0, _ => rfl
  | n + 1, q => by
    unfold su
    rw [su_congr n (fun i hi => q i (by omega)), q n (by omega)]
theorem su_upd {f h : Nat → Nat} {k d : Nat} (hk : h k = f k + d) (ho : ∀ i, i ≠ k → h i = f i) : ∀ n, su h n = su f n + (if k < n then d else 0)
  | 0 => by rw [if_neg (Nat.not_lt_zero k)]; rfl
  | n + 1 => by
    unfold su
    rw [su_upd hk ho n]
    by_cases q : k = n
    · subst q
      rw [if_neg (Nat.lt_irrefl k), if_pos (Nat.lt_succ_self k), hk]
      omega
    · rw [ho n (fun z => q z.symm)]
      by_cases r : k < n
      · rw [if_pos r, if_pos (by omega)]; omega
      · rw [if_neg r, if_neg (by omega)]; omega
theorem Wc.lv (h : Wc V g) : ∀ n, n ≤ g.ht V.R → g.ct n + n ≤ 39
  | 0, _ => h.2.2.2.1
  | n + 1, q => by
    have := h.lv n (by omega)
    have := h.2.2.2.2.1 n (by omega)
    omega
theorem Wc.ht (h : Wc V g) : g.ht V.R ≤ 38 := by
  have := h.lv _ (Nat.le_refl _)
  have := h.2.2.2.2.2.2
  omega
theorem Wc.u (h : Wc V g) : V.U ≤ 780 := by
  have e : su (fun n => 39 - n) 40 = 780 := rfl
  rw [h.1, ← e]
  refine su_mono 40 (fun i _ => ?_)
  by_cases q : i ≤ g.ht V.R
  · have := h.lv i q; omega
  · rw [h.2.2.2.2.2.1 i (by omega)]; omega
theorem Wf.u (h : Wf V g o) : V.U ≤ 780 := h.2.2.2.u
theorem Wf.hr (h : Wf V g o) : g.ht V.R ≤ 38 := h.2.2.2.ht
theorem Wf.hp (h : Wf V g o) (hp : p < V.U) : g.ht p ≤ 38 := Nat.le_trans (h.2.1 p hp).1.2.2.2.2 h.hr
theorem Wf.es (h : Wf V g o) (hp : p < V.U) : ∀ e ∈ (V.P p).es, hs V e.1 ∧ e.2.1 ≤ 9000 := fun e he => by
  have q := ((h.2.1 p hp).2.1 e he)
  have := h.hp hp
  exact ⟨q.1, by omega⟩
theorem Wf.len (h : Wf V g o) (hv : Vw V) (hp : p < V.U) : (V.P p).es.length ≤ 7 := by
  have := (h.2.1 p hp).1.2.1
  have := hv.2.2.1
  split at * <;> omega
/-- leaves are not empty, and things stand in one alone -/
theorem Wf.few (h : Wf V g o) (hp : p < V.U) (hl : (V.P p).lf = true) (h3 : 3 ≤ (V.P p).es.length) : nlv V V.U + 2 ≤ 40 := by
  have e1 := h.2.2.2.2.2.1
  have e2 : nth g ≤ 40 := by
    have := su_le (f := fun t => if (g.lo t).isSome = true then 1 else 0) (c := 1) (fun i => by show (if _ then 1 else 0) ≤ 1; split <;> omega) 40
    unfold nth
    omega
  have : nlv V V.U + 2 ≤ nen V V.U := by
    have key : ∀ n, n ≤ V.U → nlv V n + (if p < n then 2 else 0) ≤ nen V n := by
      intro n
      induction n with
      | zero => intro _; rw [if_neg (Nat.not_lt_zero p)]; exact Nat.le_refl _
      | succ n ih =>
        intro hn
        have ih := ih (by omega)
        unfold nlv nen su
        unfold nlv nen at ih
        by_cases q : p = n
        · subst q
          rw [if_neg (Nat.lt_irrefl p)] at ih
          rw [if_pos (Nat.lt_succ_self p), hl, if_pos rfl, if_pos rfl]
          omega
        · have e : (if p < n then 2 else 0) = (if p < n + 1 then 2 else 0) := by
            by_cases r : p < n
            · rw [if_pos r, if_pos (by omega)]
            · rw [if_neg r, if_neg (by omega)]
          rw [e] at ih
          by_cases r : (V.P n).lf = true
          · rw [if_pos r, if_pos r]
            have : 0 < (V.P n).es.length := by
              by_cases z : n = V.R
              · refine Classical.byContradiction fun c => ?_
                have w := (h.2.1 p hp).2.2.2.2 (fun y => q (y.trans z.symm))
                have w2 := h.2.1 (g.pa p) w.1
                have w3 := w2.1.1
                have w4 := w2.1.2.2.2.2
                have w5 := (h.2.1 n (by omega)).1.1
                rw [z] at w5
                have w6 := w5.mp (z ▸ r)
                have : g.ht (g.pa p) = 0 := by omega
                rw [w3.mpr this] at w
                cases w.2.1
              · exact (h.2.1 n (by omega)).1.2.2.1 z
            omega
          · rw [if_neg r, if_neg r]
            omega
    have := key V.U (Nat.le_refl _)
    rw [if_pos hp] at this
    exact this
  omega
/-- reaches alone change -/
theorem Wf.cong (h : Wf V g o) {P' : Nat → Pg} (hP : ∀ q, q < V.U → (P' q).lf = (V.P q).lf ∧ (P' q).ce = (V.P q).ce ∧ (P' q).es.map (fun e => (e.1, e.2.2)) = (V.P q).es.map (fun e => (e.1, e.2.2)) ∧ ∀ e ∈ (P' q).es, e.2.1 ≤ 99 * g.ht q) : Wf (mkV V.W V.T V.M V.C V.U V.R P') g o := by
  obtain ⟨⟨a1, a2⟩, b, c, d⟩ := h
  have len : ∀ q, q < V.U → (P' q).es.length = (V.P q).es.length := fun q hq => by
    have := congrArg List.length (hP q hq).2.2.1
    simpa using this
  have to : ∀ q, q < V.U → ∀ e ∈ (P' q).es, ∃ e' ∈ (V.P q).es, e'.1 = e.1 ∧ e'.2.2 = e.2.2 := fun q hq e he => by
    have : (e.1, e.2.2) ∈ (V.P q).es.map (fun e => (e.1, e.2.2)) := by
      rw [← (hP q hq).2.2.1]
      exact List.mem_map.mpr ⟨e, he, rfl⟩
    obtain ⟨e', h1, h2⟩ := List.mem_map.mp this
    exact ⟨e', h1, (Prod.mk.inj h2).1, (Prod.mk.inj h2).2⟩
  have fr : ∀ q, q < V.U → ∀ e ∈ (V.P q).es, ∃ e' ∈ (P' q).es, e'.1 = e.1 ∧ e'.2.2 = e.2.2 := fun q hq e he => by
    have : (e.1, e.2.2) ∈ (P' q).es.map (fun e => (e.1, e.2.2)) := by
      rw [(hP q hq).2.2.1]
      exact List.mem_map.mpr ⟨e, he, rfl⟩
    obtain ⟨e', h1, h2⟩ := List.mem_map.mp this
    exact ⟨e', h1, (Prod.mk.inj h2).1, (Prod.mk.inj h2).2⟩
  refine ⟨⟨a1, by rw [← a2]; exact (hP V.R a1).2.1⟩, fun q hq => ?_, fun t q hq => ?_, ?_⟩
  · obtain ⟨⟨b1, b2, b3, b4, b5⟩, b6, ⟨b7, b8⟩, b9, b10⟩ := b q hq
    obtain ⟨p1, p2, p3, p4⟩ := hP q hq
    refine ⟨⟨by show (P' q).lf = true ↔ _; rw [p1]; exact b1, by show (P' q).es.length ≤ _; rw [len q hq]; exact b2, fun z => by show 0 < (P' q).es.length; rw [len q hq]; exact b3 z, fun z1 z2 => by show 2 ≤ (P' q).es.length; rw [len q hq]; exact b4 (p1.symm.trans z1) z2, b5⟩, fun e he => ?_, ⟨fun z => ?_, fun z => ?_⟩, fun z k hk => ?_, fun z => ?_⟩
    · obtain ⟨e', h1, h2, h3⟩ := to q hq e he
      obtain ⟨c1, c2, c3, c4⟩ := b6 e' h1
      rw [h2] at c1 c3 c4
      rw [h3] at c3
      refine ⟨c1, p4 e he, fun z => ?_, fun z => c4 (p1.symm.trans z)⟩
      obtain ⟨d1, d2, d3, d4, d5⟩ := c3 (p1.symm.trans z)
      exact ⟨d1, d2, by rw [← d3]; exact (hP _ d1).2.1, d4, d5⟩
    · have := b7 (p1.symm.trans z)
      have e : (P' q).es.map (fun e => e.2.2) = (V.P q).es.map (fun e => e.2.2) := by
        have := congrArg (List.map (fun x : Nat × Nat => x.2)) p3
        simpa [List.map_map, Function.comp_def] using this
      show ((P' q).es.map (fun e => e.2.2)).Nodup
      rw [e]; exact this
    · have := b8 (p1.symm.trans z)
      have e : (P' q).es.map (fun e => e.1) = (V.P q).es.map (fun e => e.1) := by
        have := congrArg (List.map (fun x : Nat × Nat => x.1)) p3
        simpa [List.map_map, Function.comp_def] using this
      show ((P' q).es.map (fun e => e.1)).Nodup
      rw [e]; exact this
    · obtain ⟨e, h1, h2⟩ := b9 (p1.symm.trans z) k (p2.symm.trans hk)
      obtain ⟨e', h3, h4, h5⟩ := fr q hq e h1
      exact ⟨e', h3, h4.trans h2⟩
    · obtain ⟨c1, c2, e, c3, c4⟩ := b10 z
      obtain ⟨e', h3, h4, h5⟩ := fr _ c1 e c3
      exact ⟨c1, ((hP _ c1).1).trans c2, e', h3, h5.trans c4⟩
  · obtain ⟨c1, c2, c3, e, c4, c5⟩ := c t q hq
    obtain ⟨e', h3, h4, h5⟩ := fr q c2 e c4
    exact ⟨c1, c2, ((hP q c2).1).trans c3, e', h3, h4.trans c5⟩
  · obtain ⟨d1, d2, d3, d4⟩ := d
    refine ⟨d1, ?_, ?_, d4⟩
    · rw [d2]
      exact su_congr _ (fun i hi => by show _ = if (P' i).lf = true then 1 else 0; rw [(hP i hi).1])
    · rw [← d3]
      exact su_congr _ (fun i hi => by show (if (P' i).lf = true then (P' i).es.length else 0) = _; rw [(hP i hi).1, len i hi])
/-- a thing more in a leaf -/
theorem Wf.add (h : Wf V g V.U) (hp : p < V.U) (hl : (V.P p).lf = true) {t : Nat} (ht : hs V t) (hn : g.lo t = none) : Wf (V.sP p (mkP true (V.P p).ce ((V.P p).es ++ [(t, 0, 0)]))) (mkGh g.ht g.pa (fun x => if x = t then some p else g.lo x) g.ct) p := by
  obtain ⟨⟨a1, a2⟩, b, c, d⟩ := h
  have P0 : ∀ q, q ≠ p → (V.sP p (mkP true (V.P p).ce ((V.P p).es ++ [(t, 0, 0)]))).P q = V.P q := fun q hq => sP_n hq
  have P1 : (V.sP p (mkP true (V.P p).ce ((V.P p).es ++ [(t, 0, 0)]))).P p = mkP true (V.P p).ce ((V.P p).es ++ [(t, 0, 0)]) := sP_s
  have ces : ∀ q, ((V.sP p (mkP true (V.P p).ce ((V.P p).es ++ [(t, 0, 0)]))).P q).ce = (V.P q).ce := fun q => by
    by_cases z : q = p
    · rw [z, P1]; rfl
    · rw [P0 q z]
  have lfs : ∀ q, ((V.sP p (mkP true (V.P p).ce ((V.P p).es ++ [(t, 0, 0)]))).P q).lf = (V.P q).lf := fun q => by
    by_cases z : q = p
    · rw [z, P1, hl]; rfl
    · rw [P0 q z]
  have nt : ∀ q, q < V.U → (V.P q).lf = true → ∀ e ∈ (V.P q).es, e.1 ≠ t := fun q hq hlq e he z => by
    have := ((b q hq).2.1 e he).2.2.2 hlq
    rw [z, hn] at this
    cases this
  generalize hV : V.sP p (mkP true (V.P p).ce ((V.P p).es ++ [(t, 0, 0)])) = V' at *
  have eR : V'.R = V.R := by rw [← hV]; rfl
  have eU : V'.U = V.U := by rw [← hV]; rfl
  have eC : V'.C = V.C := by rw [← hV]; rfl
  have eh : ∀ x, hs V' x ↔ hs V x := fun x => by rw [← hV]; exact Iff.rfl
  refine ⟨⟨by rw [eR, eU]; exact a1, by rw [eR, ces]; exact a2⟩, fun q hq => ?_, fun x q hq => ?_, ?_⟩
  · rw [eU] at hq
    obtain ⟨⟨b1, b2, b3, b4, b5⟩, b6, ⟨b7, b8⟩, b9, b10⟩ := b q hq
    have b2 : (V.P q).es.length ≤ V.C := by rw [if_neg (by omega)] at b2; exact b2
    have par : q ≠ V'.R → g.pa q < V'.U ∧ (V'.P (g.pa q)).lf = false ∧ ∃ e ∈ (V'.P (g.pa q)).es, e.2.2 = q := fun z => by
      rw [eR] at z
      obtain ⟨c1, c2, e, c3, c4⟩ := b10 z
      rw [eU, lfs]
      refine ⟨c1, c2, e, ?_, c4⟩
      rw [P0 _ (fun y => by rw [y, hl] at c2; cases c2)]
      exact c3
    by_cases z : q = p
    · subst z
      unfold Wp
      rw [P1, eU, eR, eC]
      refine ⟨⟨?_, ?_, fun _ => ?_, fun y => ?_, b5⟩, fun e he => ?_, ⟨fun y => ?_, fun _ => ?_⟩, fun _ k hk => ?_, ?_⟩
      · exact ⟨fun _ => b1.mp hl, fun _ => rfl⟩
      · show ((V.P q).es ++ [(t, 0, 0)]).length ≤ _
        rw [if_pos rfl, List.length_append]
        show _ + 1 ≤ _
        omega
      · show 0 < ((V.P q).es ++ [(t, 0, 0)]).length
        rw [List.length_append]
        show 0 < _ + 1
        omega
      · cases y
      · rcases List.mem_append.mp he with m | m
        · obtain ⟨c1, c2, c3, c4⟩ := b6 e m
          refine ⟨(eh _).mpr c1, c2, fun y => (by cases y), fun _ => ?_⟩
          show (if e.1 = t then some q else g.lo e.1) = some q
          rw [if_neg (nt q hq hl e m)]
          exact c4 hl
        · rcases List.mem_singleton.mp m with rfl
          refine ⟨(eh _).mpr ht, Nat.zero_le _, fun y => (by cases y), fun _ => ?_⟩
          show (if t = t then some q else g.lo t) = some q
          rw [if_pos rfl]
      · cases y
      · show (((V.P q).es ++ [(t, 0, 0)]).map (fun e : Ent => e.1)).Nodup
        rw [List.map_append, List.nodup_append]
        refine ⟨b8 hl, (by simp), fun x hx y hy => ?_⟩
        rcases List.mem_singleton.mp hy with rfl
        obtain ⟨e, h1, h2⟩ := List.mem_map.mp hx
        rw [← h2]
        exact nt q hq hl e h1
      · obtain ⟨e, h1, h2⟩ := b9 hl k hk
        exact ⟨e, List.mem_append_left _ h1, h2⟩
      · rw [← eR, ← eU]; exact par
    · unfold Wp
      rw [P0 q z, eU, eR, eC]
      refine ⟨⟨b1, by omega, b3, b4, b5⟩, fun e he => ?_, ⟨b7, b8⟩, b9, by rw [← eR, ← eU]; exact par⟩
      obtain ⟨c1, c2, c3, c4⟩ := b6 e he
      refine ⟨(eh _).mpr c1, c2, fun y => ?_, fun y => ?_⟩
      · rw [ces]; exact c3 y
      · show (if e.1 = t then some p else g.lo e.1) = some q
        rw [if_neg (nt q hq y e he)]
        exact c4 y
  · have hq : (if x = t then some p else g.lo x) = some q := hq
    rw [eU]
    by_cases z : x = t
    · rw [if_pos z] at hq
      cases hq
      refine ⟨by rw [z]; exact ht.1, hp, by rw [lfs]; exact hl, (t, 0, 0), by rw [P1]; exact List.mem_append_right _ (List.mem_singleton.mpr rfl), z.symm⟩
    · rw [if_neg z] at hq
      obtain ⟨c1, c2, c3, e, c4, c5⟩ := c x q hq
      refine ⟨c1, c2, by rw [lfs]; exact c3, e, ?_, c5⟩
      by_cases y : q = p
      · rw [y, P1]; rw [y] at c4; exact List.mem_append_left _ c4
      · rw [P0 q y]; exact c4
  · obtain ⟨d1, d2, d3, d4⟩ := d
    refine ⟨by rw [eU]; exact d1, ?_, ?_, by rw [eR]; exact d4⟩
    · rw [eU]
      refine d2.trans ?_
      exact su_congr _ (fun i _ => by rw [lfs])
    · rw [eU]
      have s1 : nen V' V.U = nen V V.U + 1 := by
        have := su_upd (f := fun q => if (V.P q).lf = true then (V.P q).es.length else 0) (h := fun q => if (V'.P q).lf = true then (V'.P q).es.length else 0) (k := p) (d := 1) (by
          show (if (V'.P p).lf = true then (V'.P p).es.length else 0) = (if (V.P p).lf = true then (V.P p).es.length else 0) + 1
          rw [lfs, if_pos hl, if_pos hl, P1]
          show ((V.P p).es ++ [(t, 0, 0)]).length = _
          rw [List.length_append]; rfl) (fun i hi => by
          show (if (V'.P i).lf = true then (V'.P i).es.length else 0) = _
          rw [P0 i hi]) V.U
        rw [if_pos hp] at this
        exact this
      have s2 : nth (mkGh g.ht g.pa (fun x => if x = t then some p else g.lo x) g.ct) = nth g + 1 := by
        have := su_upd (f := fun x => if (g.lo x).isSome = true then 1 else 0) (h := fun x => if (if x = t then some p else g.lo x).isSome = true then 1 else 0) (k := t) (d := 1) (by
          show (if (if t = t then some p else g.lo t).isSome = true then 1 else 0) = (if (g.lo t).isSome = true then 1 else 0) + 1
          rw [if_pos (rfl : t = t), hn]; rfl) (fun i hi => by
          show (if (if i = t then some p else g.lo i).isSome = true then 1 else 0) = _
          rw [if_neg hi]) 40
        rw [if_pos ht.1] at this
        exact this
      rw [s1, s2, d3]
end WF
