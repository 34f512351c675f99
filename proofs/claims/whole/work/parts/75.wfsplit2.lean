section WS2
variable {V : Vt} {g : Gh} {o p : Nat}
/-- room for one more page on the level above a level that grew -/
def Sk (g : Gh) (j : Nat) : Prop := j = 0 ∨ g.ct j + 2 ≤ g.ct (j - 1)
def sgh (V : Vt) (g : Gh) (p q : Nat) (B : List Ent) (ct : Nat → Nat) : Gh := mkGh (fun x => if x = V.U then g.ht p else if x = q then g.ht p + 1 else g.ht x) (fun x => if x = p ∨ x = V.U then q else if (V.P p).lf = false ∧ x ∈ B.map (fun e => e.2.2) then V.U else g.pa x) (fun t => if (V.P p).lf = true ∧ t ∈ B.map (fun e => e.1) then some V.U else g.lo t) ct
theorem Wf.cnt (h : Wf V g p) (hp : p < V.U) {A B : List Ent} {one two r1 r2 : Nat} (sp : Spl V g p A B one two r1 r2) {V' : Vt} {q : Nat} {ct : Nat → Nat} (P1 : V'.P p = mkP (V.P p).lf (some one) A) (P2 : V'.P V.U = mkP (V.P p).lf (some two) B) (P4 : ∀ r, r < V.U → r ≠ p → (V'.P r).lf = (V.P r).lf ∧ ((V.P r).lf = true → (V'.P r).es.length = (V.P r).es.length)) : nlv V' (V.U + 1) = nlv V V.U + (if (V.P p).lf = true then 1 else 0) ∧ nen V' (V.U + 1) = nen V V.U ∧ nth (sgh V g p q B ct) = nth g := by
  obtain ⟨⟨s1, s2, s3⟩, ⟨s4, s5⟩, ⟨s6, s7, s8⟩, ⟨s9, s10⟩, ⟨s11, s12⟩, -, -⟩ := sp
  refine ⟨?_, ?_, ?_⟩
  · show su _ V.U + (if (V'.P V.U).lf = true then 1 else 0) = _
    rw [P2]
    have : su (fun p => if (V'.P p).lf = true then 1 else 0) V.U = nlv V V.U := su_congr _ (fun r hr => by
      show (if (V'.P r).lf = true then 1 else 0) = if (V.P r).lf = true then 1 else 0
      by_cases z : r = p
      · rw [z, P1]; rfl
      · rw [(P4 r hr z).1])
    rw [this]
    rfl
  · show su (fun r => if (V'.P r).lf = true then (V'.P r).es.length else 0) V.U + (if (V'.P V.U).lf = true then (V'.P V.U).es.length else 0) = su (fun r => if (V.P r).lf = true then (V.P r).es.length else 0) V.U
    rw [P2]
    by_cases z : (V.P p).lf = true
    · have e1 := su_upd (f := fun r => if r < V.U then (if (V'.P r).lf = true then (V'.P r).es.length else 0) else 0) (h := fun r => if r < V.U then (if (V.P r).lf = true then (V.P r).es.length else 0) else 0) (k := p) (d := B.length) (by
        show (if p < V.U then (if (V.P p).lf = true then (V.P p).es.length else 0) else 0) = (if p < V.U then (if (V'.P p).lf = true then (V'.P p).es.length else 0) else 0) + B.length
        rw [P1, if_pos hp, if_pos hp, if_pos z]
        show _ = (if (V.P p).lf = true then A.length else 0) + B.length
        rw [if_pos z]
        omega) (fun r hr => by
        show (if r < V.U then (if (V.P r).lf = true then (V.P r).es.length else 0) else 0) = (if r < V.U then (if (V'.P r).lf = true then (V'.P r).es.length else 0) else 0)
        by_cases y : r < V.U
        · rw [if_pos y, if_pos y, (P4 r y hr).1]
          by_cases w : (V.P r).lf = true
          · rw [if_pos w, if_pos w, (P4 r y hr).2 w]
          · rw [if_neg w, if_neg w]
        · rw [if_neg y, if_neg y]) V.U
      rw [if_pos hp] at e1
      have c1 : ∀ W : Vt, su (fun r => if r < V.U then (if (W.P r).lf = true then (W.P r).es.length else 0) else 0) V.U = su (fun r => if (W.P r).lf = true then (W.P r).es.length else 0) V.U := fun W => su_congr _ (fun r hr => if_pos hr)
      rw [c1 V, c1 V'] at e1
      rw [e1]
      show _ + (if (V.P p).lf = true then B.length else 0) = _
      rw [if_pos z]
    · show _ + (if (V.P p).lf = true then B.length else 0) = _
      rw [if_neg z]
      exact su_congr _ (fun r hr => by
        show (if (V'.P r).lf = true then (V'.P r).es.length else 0) = (if (V.P r).lf = true then (V.P r).es.length else 0)
        by_cases y : r = p
        · rw [y, P1, if_neg z]
          show (if (V.P p).lf = true then A.length else 0) = 0
          rw [if_neg z]
        · rw [(P4 r hr y).1]
          by_cases w : (V.P r).lf = true
          · rw [if_pos w, if_pos w, (P4 r hr y).2 w]
          · rw [if_neg w, if_neg w])
  · exact su_congr _ (fun t _ => by
      show (if (if (V.P p).lf = true ∧ t ∈ B.map (fun e => e.1) then some V.U else g.lo t).isSome = true then 1 else 0) = _
      by_cases w : (V.P p).lf = true ∧ t ∈ B.map (fun e => e.1)
      · rw [if_pos w]
        obtain ⟨e, h1, h2⟩ := List.mem_map.mp w.2
        have := ((h.2.1 p hp).2.1 e (s2 e h1)).2.2.2 w.1
        rw [h2] at this
        rw [this]
        rfl
      · rw [if_neg w])
/-- the parent's page with two for one -/
def spQ (V : Vt) (p q k : Nat) : Pg := mkP false (V.P q).ce (insE ((V.P q).es.set k (tg (V.P p).es (bst V (V.P p).es).1, re1 V (V.P p), p)) (k + 1) (tg (V.P p).es (bst V (V.P p).es).2.1, re2 V (V.P p), V.U))
def splV (V : Vt) (p q k : Nat) : Vt := (spV V p).sP q (spQ V p q k)
set_option maxHeartbeats 1000000 in
theorem Wf.split (h : Wf V g p) (hv : Vw V) (hp : p < V.U) (h3 : 3 ≤ (V.P p).es.length) (hR : p ≠ V.R) (sk : Sk g (g.ht p)) {q k : Nat} {e : Ent} (hq : g.pa p = q) (he : (V.P q).es[k]? = some e) (hb : e.2.2 = p) : ∃ g', Wf (splV V p q k) g' q ∧ Sk g' (g'.ht q) ∧ (∀ r, r < V.U → g'.ht r = g.ht r) ∧ (∀ r, g'.pa r = g.pa r ∨ g.ht r < g.ht p ∨ V.U ≤ r) ∧ (∀ t, (g'.lo t).isSome = (g.lo t).isSome) := by
  have sp := h.spl hv hp (by omega)
  have wp := h.2.1 p hp
  obtain ⟨y1, y2, y3⟩ := wp.2.2.2.2 hR
  rw [hq] at y1 y2 y3
  have wq := h.2.1 q y1
  have em := List.mem_of_getElem? he
  have eq := (wq.2.1 e em).2.2.1 y2
  rw [hb] at eq
  have qp : q ≠ p := fun z => by rw [z] at eq; omega
  have qU : q ≠ V.U := by omega
  have pU : p ≠ V.U := by omega
  have hc := h.2.2.2
  have htR : g.ht p < g.ht V.R := by have := wq.1.2.2.2.2; omega
  have hR38 := h.hr
  unfold splV spQ
  generalize hX : (sp1 V (V.P p)).es = A at sp
  generalize hY : (sp2 V (V.P p)).es = B at sp
  have e1 : sp1 V (V.P p) = mkP (V.P p).lf (some (tg (V.P p).es (bst V (V.P p).es).1)) A := by rw [← hX]; rfl
  have e2 : sp2 V (V.P p) = mkP (V.P p).lf (some (tg (V.P p).es (bst V (V.P p).es).2.1)) B := by rw [← hY]; rfl
  unfold spV
  rw [e1, e2]
  generalize tg (V.P p).es (bst V (V.P p).es).1 = one at *
  generalize tg (V.P p).es (bst V (V.P p).es).2.1 = two at *
  generalize re1 V (V.P p) = r1 at *
  generalize re2 V (V.P p) = r2 at *
  generalize hQ : mkP false (V.P q).ce (insE ((V.P q).es.set k (one, r1, p)) (k + 1) (two, r2, V.U)) = Q
  have Qes : Q.es = insE ((V.P q).es.set k (one, r1, p)) (k + 1) (two, r2, V.U) := by rw [← hQ]; rfl
  have Ql : Q.lf = false := by rw [← hQ]; rfl
  have nQ : Q.lf = true → False := fun z => by rw [Ql] at z; cases z
  have Qce : Q.ce = (V.P q).ce := by rw [← hQ]; rfl
  generalize hV' : (((V.sU (V.U + 1)).sP V.U (mkP (V.P p).lf (some two) B)).sP p (mkP (V.P p).lf (some one) A)).sP q Q = V'
  have P3 : V'.P q = Q := by rw [← hV', sP_s]
  have P1 : V'.P p = mkP (V.P p).lf (some one) A := by rw [← hV', sP_n (fun z => qp z.symm), sP_s]
  have P2 : V'.P V.U = mkP (V.P p).lf (some two) B := by rw [← hV', sP_n (fun z => qU z.symm), sP_n (fun z => pU z.symm), sP_s]
  have P4 : ∀ r, r < V.U → r ≠ p → r ≠ q → V'.P r = V.P r := fun r h1 h2 h3 => by rw [← hV', sP_n h3, sP_n h2, sP_n (by omega)]; rfl
  have eU : V'.U = V.U + 1 := by rw [← hV']; rfl
  have eR : V'.R = V.R := by rw [← hV']; rfl
  have eC : V'.C = V.C := by rw [← hV']; rfl
  have eh : ∀ x, hs V' x ↔ hs V x := fun x => by rw [← hV']; exact Iff.rfl
  obtain ⟨g', hg⟩ : ∃ g', g' = sgh V g p q B (fun h => if h = g.ht p then g.ct h + 1 else g.ct h) := ⟨_, rfl⟩
  have ct' : ∀ h, g'.ct h = if h = g.ht p then g.ct h + 1 else g.ct h := fun h => by rw [hg]; rfl
  have ht' : ∀ r, r < V.U → g'.ht r = g.ht r := fun r hr => by
    rw [hg]
    show (if r = V.U then g.ht p else if r = q then g.ht p + 1 else g.ht r) = _
    rw [if_neg (by omega)]
    by_cases z : r = q
    · rw [if_pos z, z, ← eq.2.1]
    · rw [if_neg z]
  have inB : ∀ r, (∃ e ∈ B, e.2.2 = r) ↔ r ∈ B.map (fun e => e.2.2) := fun r => by simp [List.mem_map]
  have inB1 : ∀ r, (∃ e ∈ B, e.1 = r) ↔ r ∈ B.map (fun e => e.1) := fun r => by simp [List.mem_map]
  have mem3 : ∀ x ∈ Q.es, x = (two, r2, V.U) ∨ x = (one, r1, p) ∨ (x ∈ (V.P q).es ∧ x.2.2 ≠ p) := fun x hx => by
    rw [Qes, mem_insE] at hx
    rcases hx with z | z
    · exact Or.inl z
    · rcases mem_set' z with y | ⟨i, y1, y2'⟩
      · exact Or.inr (Or.inl y)
      · refine Or.inr (Or.inr ⟨List.mem_of_getElem? y2', fun w => y1 ?_⟩)
        exact map_get_inj (wq.2.2.1.1 y2) y2' he (w.trans hb.symm)
  have m1 : (one, r1, p) ∈ Q.es := by
    rw [Qes, mem_insE]
    exact Or.inr (List.mem_iff_getElem?.mpr ⟨k, List.getElem?_set_self (get_lt he)⟩)
  have m2 : (two, r2, V.U) ∈ Q.es := by rw [Qes, mem_insE]; exact Or.inl rfl
  have m3 : ∀ x ∈ (V.P q).es, x.2.2 ≠ p → x ∈ Q.es := fun x hx hn => by
    rw [Qes, mem_insE]
    obtain ⟨i, hi⟩ := List.getElem?_of_mem hx
    refine Or.inr (List.mem_iff_getElem?.mpr ⟨i, ?_⟩)
    rw [List.getElem?_set_ne (fun z => by subst z; rw [he] at hi; cases hi; exact hn hb)]
    exact hi
  obtain ⟨w1, w2⟩ := h.parts hp sp (V' := V') (g' := g') (q := q) (Q := Q) eC eh (by omega) (by omega) ⟨qp, qU⟩ P1 P2 P3 P4 Ql ⟨_, m1, rfl⟩ ⟨_, m2, rfl⟩ (fun r hr h1 h2 h3 => by
      obtain ⟨-, -, x, x1, x2⟩ := (h.2.1 r hr).2.2.2.2 h2
      rw [h3] at x1
      exact ⟨x, m3 x x1 (fun z => h1 (x2.symm.trans z)), x2⟩) (fun _ => ⟨Qce, eq.2.1.symm, y2⟩) ht' (by rw [hg]; exact if_pos rfl) (by rw [hg]; exact if_pos (Or.inl rfl)) (by rw [hg]; exact if_pos (Or.inr rfl)) (fun r hr h1 h2 h3 => by
      rw [hg]
      show (if r = p ∨ r = V.U then q else if (V.P p).lf = false ∧ r ∈ B.map (fun e => e.2.2) then V.U else g.pa r) = V.U
      rw [if_neg (by omega), if_pos ⟨h2, (inB r).mp h3⟩]) (fun r hr h1 h2 => by
      rw [hg]
      show (if r = p ∨ r = V.U then q else if (V.P p).lf = false ∧ r ∈ B.map (fun e => e.2.2) then V.U else g.pa r) = _
      rw [if_neg (by omega), if_neg (fun z => h2 ⟨z.1, (inB r).mpr z.2⟩)]) (fun t h1 h2 => by rw [hg]; exact if_pos ⟨h1, (inB1 t).mp h2⟩) (fun t h1 => by rw [hg]; exact if_neg (fun z => h1 ⟨z.1, (inB1 t).mpr z.2⟩)) (by rw [eR]; exact hR) (by rw [eR]; have := h.1.1; omega) (fun r _ _ => by rw [eR]) (by rw [eR, ht' V.R h.1.1]; exact Nat.le_refl _) (fun _ => hq)
  have wpq : Wp V' g' q q := by
    obtain ⟨⟨d1, d2, d3, d4, d5⟩, d6, ⟨d7, d8⟩, d9, d10⟩ := wq
    rw [if_neg qp] at d2
    have ql : Q.es.length = (V.P q).es.length + 1 := by rw [Qes, insE_len, List.length_set]
    unfold Wp
    rw [P3, ht' q y1, eR, eU, eC]
    refine ⟨⟨⟨fun z => (nQ z).elim, fun z => (by have := d1.mpr z; rw [y2] at this; cases this)⟩, by rw [if_pos rfl, ql]; omega, fun _ => by omega, fun _ _ => by have := get_lt he; omega, by rw [ht' V.R h.1.1]; exact d5⟩, fun x hx => ?_, ⟨fun _ => ?_, fun z => (nQ z).elim⟩, fun z => (nQ z).elim, fun z => ?_⟩
    · have r12 := sp.2.2.2.2.2
      rcases mem3 x hx with z | z | ⟨z1, z2⟩
      · rw [z]
        refine ⟨(eh _).mpr r12.2.2, by rw [← eq.2.1]; exact r12.1.2, fun _ => ⟨by show V.U < V.U + 1; omega, ?_, by show (V'.P V.U).ce = some two; rw [P2]; rfl, ?_, by show V.U ≠ V.R; have := h.1.1; omega⟩, fun y => (nQ y).elim⟩
        · show g'.ht V.U + 1 = _
          rw [← eq.2.1, hg]
          show (if V.U = V.U then g.ht p else _) + 1 = _
          rw [if_pos rfl]
        · show g'.pa V.U = q
          rw [hg]; exact if_pos (Or.inr rfl)
      · rw [z]
        refine ⟨(eh _).mpr r12.2.1, by rw [← eq.2.1]; exact r12.1.1, fun _ => ⟨by show p < V.U + 1; omega, by show g'.ht p + 1 = _; rw [ht' p hp]; exact eq.2.1, by show (V'.P p).ce = some one; rw [P1]; rfl, by show g'.pa p = q; rw [hg]; exact if_pos (Or.inl rfl), hR⟩, fun y => (nQ y).elim⟩
      · obtain ⟨c1, c2, c3, c4⟩ := d6 x z1
        obtain ⟨k1, k2, k3, k4, k5⟩ := c3 y2
        have nq : x.2.2 ≠ q := fun y => by rw [y] at k2; omega
        refine ⟨(eh _).mpr c1, c2, fun _ => ⟨by omega, by rw [ht' _ k1]; exact k2, by rw [P4 _ k1 z2 nq]; exact k3, ?_, k5⟩, fun y => (nQ y).elim⟩
        rw [hg]
        show (if x.2.2 = p ∨ x.2.2 = V.U then q else if (V.P p).lf = false ∧ x.2.2 ∈ B.map (fun e => e.2.2) then V.U else g.pa x.2.2) = q
        rw [if_neg (by omega), if_neg (fun y => ?_)]
        · exact k4
        · obtain ⟨e', h1, h2⟩ := List.mem_map.mp y.2
          have := ((wp.2.1 e' (sp.1.2.1 e' h1)).2.2.1 y.1).2.2.2.1
          rw [h2, k4] at this
          exact qp this
    · rw [Qes, map_insE]
      have nd := d7 y2
      have es1 : ((V.P q).es.set k (one, r1, p)).map (fun e => e.2.2) = (V.P q).es.map (fun e => e.2.2) := by
        rw [List.map_set]
        refine List.ext_getElem? (fun i => ?_)
        by_cases z : k = i
        · subst z
          rw [List.getElem?_set_self (by rw [List.length_map]; exact get_lt he), List.getElem?_map, he, ← hb]
          rfl
        · rw [List.getElem?_set_ne z]
      rw [es1]
      refine nodup_insE nd (fun z => ?_)
      obtain ⟨e', h1, h2⟩ := List.mem_map.mp z
      have := ((d6 e' h1).2.2.1 y2).1
      have h2 : e'.2.2 = V.U := h2
      omega
    · obtain ⟨c1, c2, x, c3, c4⟩ := d10 z
      have nq : g.pa q ≠ q := fun y => by
        rw [y] at c3
        have := ((d6 x c3).2.2.1 y2).2.1
        rw [c4] at this
        omega
      have np : g.pa q ≠ p := fun y => by
        rw [y] at c3 c2
        have := ((wp.2.1 x c3).2.2.1 c2).2.1
        rw [c4] at this
        omega
      have e : g'.pa q = g.pa q := by
        rw [hg]
        show (if q = p ∨ q = V.U then q else if (V.P p).lf = false ∧ q ∈ B.map (fun e => e.2.2) then V.U else g.pa q) = _
        rw [if_neg (fun y => y.elim qp qU), if_neg (fun y => ?_)]
        obtain ⟨e', h1, h2⟩ := List.mem_map.mp y.2
        have := ((wp.2.1 e' (sp.1.2.1 e' h1)).2.2.1 y.1).2.1
        have h2 : e'.2.2 = q := h2
        rw [h2] at this
        omega
      rw [e, P4 _ c1 np nq]
      exact ⟨by omega, c2, x, c3, c4⟩
  obtain ⟨n1, n2, n3⟩ := h.cnt hp sp (V' := V') (q := q) (ct := fun h => if h = g.ht p then g.ct h + 1 else g.ct h) P1 P2 (fun r hr hn => by
    by_cases z : r = q
    · subst z
      rw [P3, Ql, y2]
      exact ⟨rfl, fun y => by cases y⟩
    · rw [P4 r hr hn z]
      exact ⟨rfl, fun _ => rfl⟩)
  rw [← hg] at n3
  obtain ⟨k1, k2, k3, k4, k5, k6, k7⟩ := hc
  refine ⟨g', ⟨⟨by rw [eR, eU]; have := h.1.1; omega, ?_⟩, fun r hr => ?_, w2, ?_, ?_, ?_, ?_, ?_, ?_, ?_⟩, ?_, ht', fun r => ?_, fun t => ?_⟩
  · rw [eR]
    by_cases z : V.R = q
    · rw [z, P3, Qce, ← z]; exact h.1.2
    · rw [P4 _ h.1.1 (fun y => hR y.symm) z]; exact h.1.2
  · by_cases z : r = q
    · rw [z]; exact wpq
    · exact w1 r (by omega) z
  · have := su_upd (f := g.ct) (h := g'.ct) (k := g.ht p) (d := 1) (by rw [ct', if_pos rfl]) (fun i hi => by rw [ct', if_neg hi]) 40
    rw [if_pos (by omega), ← k1] at this
    rw [eU, this]
  · rw [eU, n1, ct', ← k2]
    by_cases z : (V.P p).lf = true
    · rw [if_pos z, if_pos (wp.1.1.mp z).symm]
    · rw [if_neg z, if_neg (fun y => z (wp.1.1.mpr y.symm)), Nat.add_zero]
  · rw [eU, n2, n3, k3]
  · rw [ct']
    by_cases z : 0 = g.ht p
    · rw [if_pos z]
      have := h.few hp (wp.1.1.mpr z.symm) h3
      omega
    · rw [if_neg z]; exact k4
  · intro x hx
    rw [eR, ht' _ h.1.1] at hx
    have := k5 x hx
    rw [ct', ct']
    by_cases z1 : x + 1 = g.ht p
    · rw [if_pos z1, if_neg (by omega)]
      rcases sk with s | s
      · omega
      · rw [← z1, Nat.add_sub_cancel] at s
        omega
    · rw [if_neg z1]
      split <;> omega
  · intro x hx
    rw [eR, ht' _ h.1.1] at hx
    rw [ct', if_neg (by omega)]
    exact k6 x hx
  · rw [eR, ht' _ h.1.1, ct']
    split <;> omega
  · rw [ht' q y1, ← eq.2.1]
    refine Or.inr ?_
    rw [ct', ct', if_neg (by omega), Nat.add_sub_cancel, if_pos rfl]
    have := k5 (g.ht p) htR
    omega
  · by_cases z : V.U ≤ r
    · exact Or.inr (Or.inr z)
    · by_cases y : (V.P p).lf = false ∧ r ∈ B.map (fun e => e.2.2)
      · obtain ⟨e', h1, h2⟩ := List.mem_map.mp y.2
        have := ((wp.2.1 e' (sp.1.2.1 e' h1)).2.2.1 y.1).2.1
        have h2 : e'.2.2 = r := h2
        rw [h2] at this
        exact Or.inr (Or.inl (by omega))
      · refine Or.inl ?_
        rw [hg]
        show (if r = p ∨ r = V.U then q else if (V.P p).lf = false ∧ r ∈ B.map (fun e => e.2.2) then V.U else g.pa r) = _
        by_cases w : r = p
        · rw [if_pos (Or.inl w), w]; exact hq.symm
        · rw [if_neg (by omega), if_neg y]
  · rw [hg]
    show (if (V.P p).lf = true ∧ t ∈ B.map (fun e => e.1) then some V.U else g.lo t).isSome = _
    by_cases w : (V.P p).lf = true ∧ t ∈ B.map (fun e => e.1)
    · rw [if_pos w]
      obtain ⟨e', h1, h2⟩ := List.mem_map.mp w.2
      have := ((h.2.1 p hp).2.1 e' (sp.1.2.1 e' h1)).2.2.2 w.1
      have h2 : e'.1 = t := h2
      rw [h2] at this
      rw [this]
      rfl
    · rw [if_neg w]
/-- a new root above two pages -/
def sprV (V : Vt) : Vt := (((spV V V.R).sU (V.U + 2)).sR (V.U + 1)).sP (V.U + 1) (mkP false none [(tg (V.P V.R).es (bst V (V.P V.R).es).1, re1 V (V.P V.R), V.R), (tg (V.P V.R).es (bst V (V.P V.R).es).2.1, re2 V (V.P V.R), V.U)])
set_option maxHeartbeats 1000000 in
theorem Wf.sroot (h : Wf V g V.R) (hv : Vw V) (h3 : 3 ≤ (V.P V.R).es.length) (sk : Sk g (g.ht V.R)) : ∃ g', Wf (sprV V) g' (V.U + 2) ∧ (∀ t, (g'.lo t).isSome = (g.lo t).isSome) := by
  have hp := h.1.1
  have sp := h.spl hv hp (by omega)
  have wp := h.2.1 V.R hp
  have hc := h.2.2.2
  have hR38 := h.hr
  have hR37 : g.ht V.R + 1 ≤ 38 := by
    have lv := hc.lv (g.ht V.R) (Nat.le_refl _)
    have k7 := hc.2.2.2.2.2.2
    rcases sk with s | s
    · omega
    · have := hc.lv (g.ht V.R - 1) (by omega)
      omega
  have hC := hv.2.2.1
  unfold sprV spV
  generalize hX : (sp1 V (V.P V.R)).es = A at sp
  generalize hY : (sp2 V (V.P V.R)).es = B at sp
  have e1 : sp1 V (V.P V.R) = mkP (V.P V.R).lf (some (tg (V.P V.R).es (bst V (V.P V.R).es).1)) A := by rw [← hX]; rfl
  have e2 : sp2 V (V.P V.R) = mkP (V.P V.R).lf (some (tg (V.P V.R).es (bst V (V.P V.R).es).2.1)) B := by rw [← hY]; rfl
  rw [e1, e2]
  generalize tg (V.P V.R).es (bst V (V.P V.R).es).1 = one at *
  generalize tg (V.P V.R).es (bst V (V.P V.R).es).2.1 = two at *
  generalize re1 V (V.P V.R) = r1 at *
  generalize re2 V (V.P V.R) = r2 at *
  generalize hQ : mkP false none [(one, r1, V.R), (two, r2, V.U)] = Q
  have Qes : Q.es = [(one, r1, V.R), (two, r2, V.U)] := by rw [← hQ]; rfl
  have Ql : Q.lf = false := by rw [← hQ]; rfl
  have nQ : Q.lf = true → False := fun z => by rw [Ql] at z; cases z
  have Qce : Q.ce = none := by rw [← hQ]; rfl
  generalize hV' : (((((V.sU (V.U + 1)).sP V.U (mkP (V.P V.R).lf (some two) B)).sP V.R (mkP (V.P V.R).lf (some one) A)).sU (V.U + 2)).sR (V.U + 1)).sP (V.U + 1) Q = V'
  have P3 : V'.P (V.U + 1) = Q := by rw [← hV', sP_s]
  have P1 : V'.P V.R = mkP (V.P V.R).lf (some one) A := by
    rw [← hV', sP_n (by omega)]
    show (((V.sU (V.U + 1)).sP V.U (mkP (V.P V.R).lf (some two) B)).sP V.R (mkP (V.P V.R).lf (some one) A)).P V.R = _
    rw [sP_s]
  have P2 : V'.P V.U = mkP (V.P V.R).lf (some two) B := by
    rw [← hV', sP_n (by omega)]
    show (((V.sU (V.U + 1)).sP V.U (mkP (V.P V.R).lf (some two) B)).sP V.R (mkP (V.P V.R).lf (some one) A)).P V.U = _
    rw [sP_n (by omega), sP_s]
  have P4 : ∀ r, r < V.U → r ≠ V.R → r ≠ V.U + 1 → V'.P r = V.P r := fun r h1 h2 h3 => by
    rw [← hV', sP_n h3]
    show (((V.sU (V.U + 1)).sP V.U (mkP (V.P V.R).lf (some two) B)).sP V.R (mkP (V.P V.R).lf (some one) A)).P r = _
    rw [sP_n h2, sP_n (by omega)]
    rfl
  have eU : V'.U = V.U + 2 := by rw [← hV']; rfl
  have eR : V'.R = V.U + 1 := by rw [← hV']; rfl
  have eC : V'.C = V.C := by rw [← hV']; rfl
  have eh : ∀ x, hs V' x ↔ hs V x := fun x => by rw [← hV']; exact Iff.rfl
  obtain ⟨g', hg⟩ : ∃ g', g' = sgh V g V.R (V.U + 1) B (fun h => if h = g.ht V.R then g.ct h + 1 else if h = g.ht V.R + 1 then 1 else g.ct h) := ⟨_, rfl⟩
  have ct' : ∀ h, g'.ct h = if h = g.ht V.R then g.ct h + 1 else if h = g.ht V.R + 1 then 1 else g.ct h := fun h => by rw [hg]; rfl
  have ht' : ∀ r, r < V.U → g'.ht r = g.ht r := fun r hr => by
    rw [hg]
    show (if r = V.U then g.ht V.R else if r = V.U + 1 then g.ht V.R + 1 else g.ht r) = _
    rw [if_neg (by omega), if_neg (by omega)]
  have hq' : g'.ht (V.U + 1) = g.ht V.R + 1 := by
    rw [hg]
    show (if V.U + 1 = V.U then g.ht V.R else if V.U + 1 = V.U + 1 then g.ht V.R + 1 else g.ht (V.U + 1)) = _
    rw [if_neg (by omega), if_pos rfl]
  have hu' : g'.ht V.U = g.ht V.R := by rw [hg]; exact if_pos rfl
  have inB : ∀ r, (∃ e ∈ B, e.2.2 = r) ↔ r ∈ B.map (fun e => e.2.2) := fun r => by simp [List.mem_map]
  have inB1 : ∀ r, (∃ e ∈ B, e.1 = r) ↔ r ∈ B.map (fun e => e.1) := fun r => by simp [List.mem_map]
  have m1 : (one, r1, V.R) ∈ Q.es := by rw [Qes]; exact List.mem_cons_self
  have m2 : (two, r2, V.U) ∈ Q.es := by rw [Qes]; exact List.mem_cons_of_mem _ List.mem_cons_self
  obtain ⟨w1, w2⟩ := h.parts hp sp (V' := V') (g' := g') (q := V.U + 1) (Q := Q) eC eh (by omega) (by omega) ⟨by omega, by omega⟩ P1 P2 P3 P4 Ql ⟨_, m1, rfl⟩ ⟨_, m2, rfl⟩ (fun r hr h1 h2 h3 => by
      have := ((h.2.1 r hr).2.2.2.2 h2).1
      omega) (fun z => absurd z (by omega)) ht' hu' (by rw [hg]; exact if_pos (Or.inl rfl)) (by rw [hg]; exact if_pos (Or.inr rfl)) (fun r hr h1 h2 h3 => by
      rw [hg]
      show (if r = V.R ∨ r = V.U then V.U + 1 else if (V.P V.R).lf = false ∧ r ∈ B.map (fun e => e.2.2) then V.U else g.pa r) = V.U
      rw [if_neg (by omega), if_pos ⟨h2, (inB r).mp h3⟩]) (fun r hr h1 h2 => by
      rw [hg]
      show (if r = V.R ∨ r = V.U then V.U + 1 else if (V.P V.R).lf = false ∧ r ∈ B.map (fun e => e.2.2) then V.U else g.pa r) = _
      rw [if_neg (by omega), if_neg (fun z => h2 ⟨z.1, (inB r).mpr z.2⟩)]) (fun t h1 h2 => by rw [hg]; exact if_pos ⟨h1, (inB1 t).mp h2⟩) (fun t h1 => by rw [hg]; exact if_neg (fun z => h1 ⟨z.1, (inB1 t).mpr z.2⟩)) (by rw [eR]; omega) (by rw [eR]; omega) (fun r hr hn => by rw [eR]; omega) (by rw [eR, hq']; omega) (fun z => absurd rfl z)
  have wpq : Wp V' g' (V.U + 2) (V.U + 1) := by
    have r12 := sp.2.2.2.2.2
    unfold Wp
    rw [P3, hq', eR, eU, eC, Qes]
    refine ⟨⟨⟨fun z => (nQ z).elim, fun z => (by omega)⟩, by show 2 ≤ _; omega, fun z => absurd rfl z, fun _ _ => Nat.le_refl _, by rw [hq']; exact Nat.le_refl _⟩, fun x hx => ?_, ⟨fun _ => ?_, fun z => (nQ z).elim⟩, fun z => (nQ z).elim, fun z => absurd rfl z⟩
    · rcases List.mem_cons.mp hx with z | z
      · rw [z]
        exact ⟨(eh _).mpr r12.2.1, r12.1.1, fun _ => ⟨by show V.R < _; omega, by show g'.ht V.R + 1 = _; rw [ht' _ hp], by show (V'.P V.R).ce = some one; rw [P1]; rfl, by show g'.pa V.R = _; rw [hg]; exact if_pos (Or.inl rfl), by show V.R ≠ _; omega⟩, fun y => (nQ y).elim⟩
      · rw [List.mem_singleton.mp z]
        exact ⟨(eh _).mpr r12.2.2, r12.1.2, fun _ => ⟨by show V.U < _; omega, by show g'.ht V.U + 1 = _; rw [hu'], by show (V'.P V.U).ce = some two; rw [P2]; rfl, by show g'.pa V.U = _; rw [hg]; exact if_pos (Or.inr rfl), by show V.U ≠ _; omega⟩, fun y => (nQ y).elim⟩
    · show [V.R, V.U].Nodup
      rw [List.nodup_cons]
      exact ⟨fun z => by have := List.mem_singleton.mp z; omega, by simp⟩
  obtain ⟨n1, n2, n3⟩ := h.cnt hp sp (V' := V') (q := V.U + 1) (ct := fun h => if h = g.ht V.R then g.ct h + 1 else if h = g.ht V.R + 1 then 1 else g.ct h) P1 P2 (fun r hr hn => by
    rw [P4 r hr hn (by omega)]
    exact ⟨rfl, fun _ => rfl⟩)
  rw [← hg] at n3
  obtain ⟨k1, k2, k3, k4, k5, k6, k7⟩ := hc
  have up : ∀ r, r < V'.U → r ≠ V.U + 1 → Wp V' g' (V.U + 2) r := fun r hr hn => by
    obtain ⟨⟨a1, a2, a3⟩, a4⟩ := w1 r (by omega) hn
    rw [if_neg hn] at a2
    exact ⟨⟨a1, by rw [if_neg (by omega)]; exact a2, a3⟩, a4⟩
  refine ⟨g', ⟨⟨by rw [eR, eU]; omega, by rw [eR, P3]; exact Qce⟩, fun r hr => ?_, w2, ?_, ?_, ?_, ?_, ?_, ?_, ?_⟩, fun t => ?_⟩
  · by_cases z : r = V.U + 1
    · rw [z]; exact wpq
    · exact up r hr z
  · have s1 := su_upd (f := g.ct) (h := fun h => if h = g.ht V.R then g.ct h + 1 else g.ct h) (k := g.ht V.R) (d := 1) (by show (if g.ht V.R = g.ht V.R then _ else _) = _; rw [if_pos rfl]) (fun i hi => if_neg hi) 40
    have s2 := su_upd (f := fun h => if h = g.ht V.R then g.ct h + 1 else g.ct h) (h := g'.ct) (k := g.ht V.R + 1) (d := 1) (by
      show g'.ct _ = (if g.ht V.R + 1 = g.ht V.R then _ else g.ct (g.ht V.R + 1)) + 1
      rw [ct', if_neg (by omega), if_pos rfl, if_neg (by omega), k6 _ (by omega)]) (fun i hi => by
      show g'.ct i = if i = g.ht V.R then g.ct i + 1 else g.ct i
      rw [ct', if_neg hi]) 40
    rw [if_pos (by omega)] at s1 s2
    rw [eU, s2, s1, ← k1]
  · have : nlv V' (V.U + 2) = nlv V' (V.U + 1) := by
      show nlv V' (V.U + 1) + (if (V'.P (V.U + 1)).lf = true then 1 else 0) = _
      rw [P3, if_neg nQ]; rfl
    rw [eU, this, n1, ct', ← k2]
    by_cases z : (V.P V.R).lf = true
    · rw [if_pos z, if_pos (wp.1.1.mp z).symm]
    · rw [if_neg z, if_neg (fun y => z (wp.1.1.mpr y.symm)), if_neg (by omega), Nat.add_zero]
  · have : nen V' (V.U + 2) = nen V' (V.U + 1) := by
      show nen V' (V.U + 1) + (if (V'.P (V.U + 1)).lf = true then (V'.P (V.U + 1)).es.length else 0) = _
      rw [P3, if_neg nQ]; rfl
    rw [eU, this, n2, n3, k3]
  · rw [ct']
    by_cases z : 0 = g.ht V.R
    · rw [if_pos z]
      have := h.few hp (wp.1.1.mpr z.symm) h3
      omega
    · rw [if_neg z, if_neg (by omega)]; exact k4
  · intro x hx
    rw [eR, hq'] at hx
    rw [ct', ct']
    by_cases z0 : x = g.ht V.R
    · subst z0
      rw [if_neg (by omega), if_pos rfl, if_pos rfl]
      omega
    · have := k5 x (by omega)
      by_cases z1 : x + 1 = g.ht V.R
      · rw [if_pos z1, if_neg z0, if_neg (by omega)]
        rcases sk with s | s
        · omega
        · rw [← z1, Nat.add_sub_cancel] at s
          omega
      · rw [if_neg z1, if_neg (by omega), if_neg z0, if_neg (by omega)]
        exact this
  · intro x hx
    rw [eR, hq'] at hx
    rw [ct', if_neg (by omega), if_neg (by omega)]
    exact k6 x (by omega)
  · rw [eR, hq', ct', if_neg (by omega), if_pos rfl]
    omega
  · rw [hg]
    show (if (V.P V.R).lf = true ∧ t ∈ B.map (fun e => e.1) then some V.U else g.lo t).isSome = _
    by_cases w : (V.P V.R).lf = true ∧ t ∈ B.map (fun e => e.1)
    · rw [if_pos w]
      obtain ⟨e', h1, h2⟩ := List.mem_map.mp w.2
      have := ((h.2.1 V.R hp).2.1 e' (sp.1.2.1 e' h1)).2.2.2 w.1
      have h2 : e'.1 = t := h2
      rw [h2] at this
      rw [this]
      rfl
    · rw [if_neg w]
end WS2
