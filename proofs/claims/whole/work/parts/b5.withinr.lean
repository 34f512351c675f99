section WITHINR
variable {S0 : MS} {V : Vt} {g : Gh} {π : Nat → Nat} {dq : Nat → Nat} {r : Nat}
/-- the reference amid a search within -/
def RV (S0 : MS) (V : Vt) (π : Nat → Nat) (dq : Nat → Nat) (S : MS) (X : Xs) : Prop := (RT (S.1 0) V π ∧ Qrf S V dq ∧ Rz S0 S ∧ S.2 33 = 1) ∧ (KR S dq X.1 ∧ S.2 27 = nI X.2.1 ∧ S.2 28 = nI X.2.2.1 ∧ S.2 29 = nI X.2.2.2.2.length) ∧ Rf S X.2.2.2.1
/-- its way down: page and the next entry, the lowest first -/
def Pth (S : MS) (π : Nat → Nat) (st : List (Nat × Nat)) : Prop := ∀ (j : Nat) (x : Nat × Nat), st.reverse[j]? = some x → S.1 4 j = nI (π x.1) ∧ S.1 5 j = nI x.2
def Chn (V : Vt) (dq : Nat → Nat) (r : Nat) : List (Nat × Nat) → Prop
  | [] => True
  | [x] => x.1 = V.R
  | x :: y :: rest => (∃ e, (V.P y.1).es[y.2 - 1]? = some e ∧ 1 ≤ y.2 ∧ e.2.2 = x.1 ∧ (V.P y.1).lf = false ∧ ¬ spw V dq r y.1 e) ∧ Chn V dq r (y :: rest)
theorem Chn.tl {x : Nat × Nat} {st : List (Nat × Nat)} (h : Chn V dq r (x :: st)) : Chn V dq r st := by
  cases st with
  | nil => trivial
  | cons y rest => exact h.2
theorem Chn.ht (w : Wf V g V.U) : ∀ (st : List (Nat × Nat)) (x : Nat × Nat), Chn V dq r (x :: st) → (∀ y ∈ x :: st, y.1 < V.U) → g.ht x.1 + st.length = g.ht V.R ∧ ∀ y ∈ st, g.ht x.1 < g.ht y.1
  | [], x, h, _ => ⟨by have h : x.1 = V.R := h; rw [h]; rfl, fun y hy => by cases hy⟩
  | y :: rest, x, h, hU => by
    obtain ⟨⟨e, e1, e2, e3, e4, e5⟩, h2⟩ := h
    obtain ⟨i1, i2⟩ := Chn.ht w rest y h2 (fun z hz => hU z (List.mem_cons_of_mem _ hz))
    have yU := hU y (List.mem_cons_of_mem _ (List.mem_cons_self ..))
    have k := (((w.2.1 y.1 yU).2.1 e (List.mem_of_getElem? e1)).2.2.1 e4).2.1
    rw [e3] at k
    refine ⟨by rw [List.length_cons]; omega, fun z hz => ?_⟩
    rcases List.mem_cons.mp hz with rfl | hz
    · omega
    · have := i2 z hz; omega
theorem Pth.tl {S : MS} {x : Nat × Nat} {st : List (Nat × Nat)} (h : Pth S π (x :: st)) : Pth S π st := fun j y hj => h j y (by
  rw [List.reverse_cons, List.getElem?_append_left (List.getElem?_eq_some_iff.mp hj).1]; exact hj)
theorem Pth.top {S : MS} {x : Nat × Nat} {st : List (Nat × Nat)} (h : Pth S π (x :: st)) : S.1 4 st.length = nI (π x.1) ∧ S.1 5 st.length = nI x.2 := h _ x (by
  rw [List.reverse_cons, List.getElem?_append_right (by rw [List.length_reverse]; exact Nat.le_refl _), List.length_reverse, Nat.sub_self]; rfl)
theorem Pth.cons {S S' : MS} {x : Nat × Nat} {st : List (Nat × Nat)} (h : Pth S π st) (h1 : S'.1 4 st.length = nI (π x.1) ∧ S'.1 5 st.length = nI x.2) (h2 : ∀ j, j < st.length → S'.1 4 j = S.1 4 j ∧ S'.1 5 j = S.1 5 j) : Pth S' π (x :: st) := by
  intro j y hj
  rw [List.reverse_cons] at hj
  by_cases z : j < st.length
  · rw [List.getElem?_append_left (by rw [List.length_reverse]; exact z)] at hj
    rw [(h2 j z).1, (h2 j z).2]
    exact h j y hj
  · have zl : j = st.length := by
      have := (List.getElem?_eq_some_iff.mp hj).1
      rw [List.length_append, List.length_reverse] at this
      simp at this
      omega
    subst zl
    rw [List.getElem?_append_right (by rw [List.length_reverse]; exact Nat.le_refl _), List.length_reverse, Nat.sub_self] at hj
    have : x = y := by simpa using hj
    subst this
    exact h1
theorem RV.row5 {S : MS} {X : Xs} {n5 : Nat} {v : Int32} (h : RV S0 V π dq S X) : RV S0 V π dq (up2 S.1 5 n5 v, S.2) X := by
  obtain ⟨⟨rt, qr, rz, s33⟩, ⟨kr, n1, n2, n3⟩, rf⟩ := h
  refine ⟨⟨?_, qr, rz.tr ⟨fun j hj => up2_r (by omega), fun _ _ => rfl⟩, s33⟩, ⟨fun t ht => ?_, n1, n2, n3⟩, rf.1, rf.2.1, fun i t hi => ?_⟩
  · show RT (up2 S.1 5 n5 v 0) V π; rw [up2_r (by decide)]; exact rt
  · show up2 S.1 5 n5 v 17 t = _; rw [up2_j (by decide)]; exact kr t ht
  · show up2 S.1 5 n5 v 18 i = _; rw [up2_j (by decide)]; exact rf.2.2 i t hi
theorem len45 : m_len 4 = 42 ∧ m_len 5 = 42 := ⟨rfl, rfl⟩
theorem su_dec {f h : Nat → Nat} {k U : Nat} (hk : f k = h k + 1) (ho : ∀ i, i ≠ k → h i = f i) (hU : k < U) : su h U + 1 = su f U := by
  have := su_upd (f := h) (h := f) (k := k) (d := 1) hk (fun i hi => (ho i hi).symm) U
  rw [if_pos hU] at this
  exact this.symm
theorem r_wloop (hv : Vw V) (w : Wf V g V.U) (hd : ∀ t, dq t ≤ 99) (hr : r ≤ 99) : ∀ (m F : Nat) (S : MS) (X : Xs) (pr : Nat → Nat) (st : List (Nat × Nat)), m < F → 2 * su (fun p => (V.P p).es.length - pr p) V.U + st.length ≤ m → RV S0 V π dq S X → Pth S π st → Chn V dq r st → WI V dq r pr X → (∀ y ∈ st, y.1 ∈ qpg X.2.2.2.2 ∧ pr y.1 = y.2 ∧ y.2 ≤ (V.P y.1).es.length) → (∀ q ∈ qpg X.2.2.2.2, (∀ y ∈ st, y.1 ≠ q) → pr q = (V.P q).es.length) → ∃ S' X' pr', r_findWithin_26 F (nI r) (nI st.length - 1) S = some (pf S' 32 (nI X'.2.2.2.1.length)) ∧ RV S0 V π dq S' X' ∧ WI V dq r pr' X' ∧ ∀ p ∈ qpg X'.2.2.2.2, pr' p = (V.P p).es.length
  | m, 0, _, _, _, _, h, _, _, _, _, _, _, _ => absurd h (Nat.not_lt_zero m)
  | m, F + 1, S, X, pr, [], _, _, rv, _, _, wi, _, dn => by
    rw [r_findWithin_26.eq_2, if_pos (by decide), rv.2.2.1]
    exact ⟨S, X, pr, rfl, rv, wi, fun p hp => dn p hp (fun y hy => by cases hy)⟩
  | m, F + 1, S, X, pr, (p, k) :: rest, hF, hm, rv, pt, ch, wi, hst, dn => by
    have u := w.u
    have m1' : 1 ≤ m := by rw [List.length_cons] at hm; omega
    obtain ⟨⟨rt, qr, rz, s33⟩, ⟨kr, n1, n2, n3⟩, rf⟩ := id rv
    obtain ⟨pq, prk, kl⟩ := hst (p, k) (List.mem_cons_self ..)
    have prk : pr p = k := prk
    have kl : k ≤ (V.P p).es.length := kl
    have pq : p ∈ qpg X.2.2.2.2 := pq
    have pU := wi.1.2.1 p pq
    have allU : ∀ y ∈ (p, k) :: rest, y.1 < V.U := fun y hy => wi.1.2.1 y.1 (hst y hy).1
    obtain ⟨ht1, ht2⟩ := Chn.ht w rest (p, k) ch allU
    have hr38 := w.hr
    have rl : rest.length ≤ 38 := by omega
    obtain ⟨t4, t5⟩ := pt.top
    obtain ⟨p1, rp⟩ := rt.2.2.1 p pU
    have l7 := rp.2.2
    rw [List.length_map] at l7
    have x2 : nI ((p, k) :: rest).length - 1 = nI rest.length := by rw [List.length_cons, show (1 : Int32) = nI 1 from rfl, pk_sub (by omega)]; rfl
    rw [x2, r_findWithin_26.eq_2, if_neg (nI_pos (by omega)), rd_ok (by rw [len45.1]; omega) (by omega), bind_s, t4, rd_ok (by rw [len45.2]; omega) (by omega), bind_s, t5]
    show ∃ S' X' pr', ((r_countOf S (nI (π p))).bind _) = _ ∧ _
    rw [rp.n (by omega), bind_s, List.length_map]
    show ∃ S' X' pr', (if nI k = nI (V.P p).es.length then _ else _) = _ ∧ _
    by_cases z : k = (V.P p).es.length
    · -- this page is done
      rw [if_pos (by rw [z])]
      obtain ⟨S', X', pr', g1, g2⟩ := r_wloop hv w hd hr (m - 1) F S X pr rest (by omega) (by rw [List.length_cons] at hm; omega) rv pt.tl ch.tl wi (fun y hy => hst y (List.mem_cons_of_mem _ hy)) (fun q hq hn => by
        by_cases y : q = p
        · rw [y, prk, z]
        · exact dn q hq (fun v hv e => by
            rcases List.mem_cons.mp hv with rfl | hv
            · exact y e.symm
            · exact hn v hv e))
      refine ⟨S', X', pr', ?_, g2⟩
      rw [← Int32.sub_eq_add_neg]
      exact g1
    · rw [if_neg (fun y => z ((nI_eq (by omega) (by omega)).mp y)), bind_s]
      obtain ⟨e, he⟩ : ∃ e, (V.P p).es[k]? = some e := ⟨_, List.getElem?_eq_getElem (by omega)⟩
      have he' : ((V.P p).es.map (reE V π (V.P p)))[k]? = some (reE V π (V.P p) e) := by rw [List.getElem?_map, he]; rfl
      have hep : (V.P p).es[pr p]? = some e := by rw [prk]; exact he
      have hse := ((w.2.1 p pU).2.1 e (List.mem_of_getElem? he)).1
      have r9 := (w.es pU e (List.mem_of_getElem? he)).2
      have d9 := hd e.1
      have nw := wi.new w pU hep
      obtain ⟨A, hA⟩ : ∃ A : MS, ((up2 S.1 5 rest.length (nI (k + 1)), S.2) : MS) = A := ⟨_, rfl⟩
      have rvA : RV S0 V π dq A X := by rw [← hA]; exact rv.row5
      obtain ⟨⟨rtA, qrA, rzA, s33A⟩, ⟨krA, m1, m2, m3⟩, rfA⟩ := id rvA
      have rpA := (rtA.2.2.1 p pU).2
      have rowA : A.1 4 = S.1 4 ∧ A.1 5 rest.length = nI (k + 1) ∧ ∀ j, j ≠ rest.length → A.1 5 j = S.1 5 j := by
        rw [← hA]
        show up2 S.1 5 rest.length (nI (k + 1)) 4 = S.1 4 ∧ up2 S.1 5 rest.length (nI (k + 1)) 5 rest.length = nI (k + 1) ∧ ∀ j, j ≠ rest.length → up2 S.1 5 rest.length (nI (k + 1)) 5 j = S.1 5 j
        exact ⟨up2_r (by decide), up2_s, fun j hj => up2_n (fun q => hj q.2)⟩
      have ptA : Pth A π ((p, k + 1) :: rest) := pt.tl.cons ⟨by rw [rowA.1]; exact t4, rowA.2.1⟩ (fun j hj => ⟨by rw [rowA.1], rowA.2.2 j (by omega)⟩)
      have chA : Chn V dq r ((p, k + 1) :: rest) := by
        cases rest with
        | nil => exact ch
        | cons y rs => exact ch
      -- what the loop does next, whatever the entry came to
      have mu : 2 * su (fun q => (V.P q).es.length - pu pr p q) V.U + 2 ≤ 2 * su (fun q => (V.P q).es.length - pr q) V.U := by
        have := su_dec (f := fun q => (V.P q).es.length - pr q) (h := fun q => (V.P q).es.length - pu pr p q) (k := p) (U := V.U) (by
          show (V.P p).es.length - pr p = (V.P p).es.length - pu pr p p + 1
          rw [show pu pr p p = pr p + 1 from if_pos rfl, prk]
          omega) (fun i hi => by
          show (V.P i).es.length - pu pr p i = _
          rw [show pu pr p i = pr i from if_neg hi]) pU
        omega
      have rest_ne : ∀ y ∈ rest, y.1 ≠ p := fun y hy e => by
        have := ht2 y hy
        rw [e] at this
        exact Nat.lt_irrefl _ this
      have on : ∀ (S1 : MS) (X1 : Xs) (st1 : List (Nat × Nat)), Stq V dq false true 40 r p e X X1 → RV S0 V π dq S1 X1 → Pth S1 π st1 → Chn V dq r st1 → (st1 = (p, k + 1) :: rest ∨ ∃ c, st1 = (c, 0) :: (p, k + 1) :: rest ∧ c ∉ qpg X.2.2.2.2 ∧ c ∈ qpg X1.2.2.2.2 ∧ (∀ q ∈ qpg X1.2.2.2.2, q ∈ qpg X.2.2.2.2 ∨ q = c)) → (st1 = (p, k + 1) :: rest → ∀ q ∈ qpg X1.2.2.2.2, q ∈ qpg X.2.2.2.2) → ∃ S' X' pr', r_findWithin_26 F (nI r) (nI st1.length - 1) S1 = some (pf S' 32 (nI X'.2.2.2.1.length)) ∧ RV S0 V π dq S' X' ∧ WI V dq r pr' X' ∧ ∀ p ∈ qpg X'.2.2.2.2, pr' p = (V.P p).es.length := by
        intro S1 X1 st1 s rv1 pt1 ch1 hs1 hs2
        have wi1 := wi.step w pq hep s
        have base : ∀ y ∈ (p, k + 1) :: rest, y.1 ∈ qpg X1.2.2.2.2 ∧ pu pr p y.1 = y.2 ∧ y.2 ≤ (V.P y.1).es.length := fun y hy => by
          rcases List.mem_cons.mp hy with rfl | hy
          · exact ⟨s.sub pq, by show pu pr p p = k + 1; rw [show pu pr p p = pr p + 1 from if_pos rfl, prk], by show k + 1 ≤ (V.P p).es.length; omega⟩
          · obtain ⟨a1, a2, a3⟩ := hst y (List.mem_cons_of_mem _ hy)
            exact ⟨s.sub a1, by rw [show pu pr p y.1 = pr y.1 from if_neg (rest_ne y hy)]; exact a2, a3⟩
        have done : ∀ q ∈ qpg X.2.2.2.2, (∀ y ∈ (p, k + 1) :: rest, y.1 ≠ q) → pu pr p q = (V.P q).es.length := fun q hq hn => by
          have qp : q ≠ p := fun v => hn (p, k + 1) (List.mem_cons_self ..) v.symm
          rw [show pu pr p q = pr q from if_neg qp]
          exact dn q hq (fun v hv e => by
            rcases List.mem_cons.mp hv with rfl | hv
            · exact qp e.symm
            · exact hn v (List.mem_cons_of_mem _ hv) e)
        rcases hs1 with h | ⟨c, h, c1, c2, c3⟩
        · subst h
          exact r_wloop hv w hd hr (m - 1) F S1 X1 (pu pr p) _ (by omega) (by rw [List.length_cons] at hm ⊢; omega) rv1 pt1 ch1 wi1 base (fun q hq hn => done q (hs2 rfl q hq) hn)
        · subst h
          refine r_wloop hv w hd hr (m - 1) F S1 X1 (pu pr p) _ (by omega) (by rw [List.length_cons] at hm ⊢; rw [List.length_cons]; omega) rv1 pt1 ch1 wi1 (fun y hy => ?_) (fun q hq hn => ?_)
          · rcases List.mem_cons.mp hy with rfl | hy
            · refine ⟨c2, ?_, Nat.zero_le _⟩
              show pu pr p c = 0
              rw [show pu pr p c = pr c from if_neg (fun v => c1 (by rw [v]; exact pq))]
              exact wi.1.2.2 c c1
            · exact base y hy
          · have qc : q ≠ c := fun v => hn (c, 0) (List.mem_cons_self ..) v.symm
            exact done q ((c3 q hq).resolve_right qc) (fun y hy => hn y (List.mem_cons_of_mem _ hy))
      have sl : ((p, k + 1) :: rest).length = rest.length + 1 := rfl
      have lm : ∀ R, lmt dq true 40 r R = some r := fun R => if_pos rfl
      -- an entry that isn't spared
      have main : ¬ spw V dq r p e → ∃ S' X' pr', r_findWithin_137 (r_findWithin_26 F) (nI r) (nI rest.length) (nI (π p)) (nI k) (nI e.2.1) (nI e.1) A = some (pf S' 32 (nI X'.2.2.2.1.length)) ∧ RV S0 V π dq S' X' ∧ WI V dq r pr' X' ∧ ∀ p ∈ qpg X'.2.2.2.2, pr' p = (V.P p).es.length := by
        intro ns
        have ns' : ¬ spd V dq false (lmt dq true 40 r X.2.2.2.1) p e := by rw [lm]; exact ns
        obtain ⟨S9, g1, g2, g3, g4, g5⟩ := r_wayTo_eq rtA.1 hv qrA krA m1 hse d9
        have rt9 : RT (S9.1 0) V π := by rw [g4 0 (by decide) (by decide) (by decide)]; exact rtA
        have rp9 := (rt9.2.2.1 p pU).2
        have rf9 : Rf S9 X.2.2.2.1 := ⟨by rw [g5 26 (by decide)]; exact rfA.1, rfA.2.1, fun i t hi => by rw [g4 18 (by decide) (by decide) (by decide)]; exact rfA.2.2 i t hi⟩
        have rv9 : RV S0 V π dq S9 (kup X.1 e.1, X.2.1 + (if X.1 e.1 = true then 0 else 1), X.2.2.1, X.2.2.2.1, X.2.2.2.2) := by
          refine ⟨⟨rt9, ?_, rzA.tr ⟨fun j hj => g4 j (by omega) (by omega) (by omega), fun k hk => g5 k (by omega)⟩, by rw [g5 33 (by decide)]; exact s33A⟩, ⟨g2, g3, by rw [g5 28 (by decide)]; exact m2, by rw [g5 29 (by decide)]; exact m3⟩, rf9⟩
          unfold Qrf; rw [g5 30 (by decide), g5 31 (by decide)]; exact qrA
        have pt9 : Pth S9 π ((p, k + 1) :: rest) := fun j x hj => by
          rw [g4 4 (by decide) (by decide) (by decide), g4 5 (by decide) (by decide) (by decide)]
          exact ptA j x hj
        unfold r_findWithin_137
        rw [g1, bd2_s, nI_add]
        have fr : ∀ Y, (Y = some () → True) → True := fun _ _ => trivial
        by_cases y : dq e.1 ≤ r + e.2.1
        · rw [if_pos (nI_le y (by omega)), rp9.l (by omega), bind_s, bI_0']
          cases hl : (V.P p).lf with
          | true =>
            have h0 : g.ht p = 0 := (w.2.1 p pU).1.1.mp hl
            have e0 : e.2.1 = 0 := by
              have := ((w.2.1 p pU).2.1 e (List.mem_of_getElem? he)).2.1
              rw [h0] at this
              omega
            obtain ⟨c, c0, c1, c2⟩ := Srt.cut (t := e.1) wi.2.2.2.2.2 (nw.1 hl)
            have hR : ∀ x ∈ X.2.2.2.1, hs V x ∧ X.1 x = true := fun x hx => by
              obtain ⟨q, j, f, f1, f2, f3, f4, f5, f6⟩ := (wi.2.2.2.2.1 x).mp hx
              have qU := (wi.q f1).2
              exact ⟨by rw [← f6]; exact ((w.2.1 q qU).2.1 f (List.mem_of_getElem? f2)).1, (wi.2.2.1 x).mpr ⟨q, j, f, f1, f2, f4, f6⟩⟩
            have r39 : X.2.2.2.1.length < 40 := by
              have := nd_len 40 (e.1 :: X.2.2.2.1) (List.nodup_cons.mpr ⟨nw.1 hl, srt_nd wi.2.2.2.2.2⟩) (fun q hq => by
                rcases List.mem_cons.mp hq with rfl | hq
                · exact hse.1
                · exact (hR q hq).1.1)
              rw [List.length_cons] at this
              omega
            obtain ⟨S1, f1, f2, f3⟩ := r_find_eq (fa := false) (S := S9) (R := X.2.2.2.1) g2 hd rf9 (fun x hx => ⟨(hR x hx).1.1, by unfold kup; split <;> first | rfl | exact (hR x hx).2⟩) hse.1 (if_pos rfl) r39 c0 c1 c2
            have f1 : r_find S9 (nI e.1) 0 = some S1 := f1
            rw [if_neg (by decide), f1, bind_s]
            obtain ⟨⟨rt9, qr9, rz9, s339⟩, ⟨kr9, q1, q2, q3⟩, -⟩ := rv9
            have rv1 : RV S0 V π dq S1 (kup X.1 e.1, X.2.1 + (if X.1 e.1 = true then 0 else 1), X.2.2.1, lin X.2.2.2.1 c e.1, X.2.2.2.2) := by
              refine ⟨⟨by rw [f3.1 0 (by decide)]; exact rt9, ?_, rz9.tr ⟨fun j hj => f3.1 j (by omega), fun k hk => f3.2 k (by omega)⟩, by rw [f3.2 33 (by decide)]; exact s339⟩, ⟨fun t ht => by rw [f3.1 17 (by decide)]; exact kr9 t ht, by rw [f3.2 27 (by decide)]; exact q1, by rw [f3.2 28 (by decide)]; exact q2, by rw [f3.2 29 (by decide)]; exact q3⟩, f2⟩
              unfold Qrf; rw [f3.2 30 (by decide), f3.2 31 (by decide)]; exact qr9
            have := on S1 _ _ (Or.inr ⟨ns', Or.inl ⟨hl, fun _ => by omega, c, ⟨c0, c1, c2⟩, rfl⟩⟩) rv1 (fun j x hj => by rw [f3.1 4 (by decide), f3.1 5 (by decide)]; exact pt9 j x hj) chA (Or.inl rfl) (fun _ q hq => hq)
            rw [sl, show (1 : Int32) = nI 1 from rfl, pk_sub (by omega)] at this
            exact this
          | false =>
            obtain ⟨k1, k2, k3, k4, k5⟩ := ((w.2.1 p pU).2.1 e (List.mem_of_getElem? he)).2.2.1 hl
            have e3 : r_entryOf S9 (nI (π p)) (nI k) 3 = some (nI (π e.2.2)) := by
              rw [rp9.e3 (by omega) he']
              unfold reE
              rw [if_neg (by rw [hl]; decide)]
            have nb : ¬ byd false (lmt dq true 40 r X.2.2.2.1) (bdn dq false e) := by
              rintro ⟨l, l1, l2⟩
              rw [lm] at l1
              cases l1
              rw [ba_f] at l2
              unfold bdn at l2
              rw [if_neg (by decide)] at l2
              omega
            rw [if_pos (by decide), e3, bind_s, nI_1, wr_ok (by rw [len45.1]; omega) (by omega), bind_s, wr_ok (by rw [len45.2]; omega) (by omega), bind_s]
            obtain ⟨B, hB⟩ : ∃ B : MS, ((up2 (up2 S9.1 4 (rest.length + 1) (nI (π e.2.2))) 5 (rest.length + 1) 0, S9.2) : MS) = B := ⟨_, rfl⟩
            have B1 : ∀ j, j ≠ 4 → j ≠ 5 → B.1 j = S9.1 j := fun j h1 h2 => by rw [← hB]; show up2 (up2 S9.1 4 (rest.length + 1) (nI (π e.2.2))) 5 (rest.length + 1) 0 j = S9.1 j; rw [up2_r h2, up2_r h1]
            have B2 : B.2 = S9.2 := by rw [← hB]
            have B4 : B.1 4 (rest.length + 1) = nI (π e.2.2) ∧ B.1 5 (rest.length + 1) = nI 0 ∧ ∀ j, j < rest.length + 1 → B.1 4 j = S9.1 4 j ∧ B.1 5 j = S9.1 5 j := by
              rw [← hB]
              refine ⟨?_, ?_, fun j hj => ⟨?_, ?_⟩⟩
              · show up2 (up2 S9.1 4 (rest.length + 1) (nI (π e.2.2))) 5 (rest.length + 1) 0 4 (rest.length + 1) = nI (π e.2.2); rw [up2_j (by decide), up2_s]
              · show up2 (up2 S9.1 4 (rest.length + 1) (nI (π e.2.2))) 5 (rest.length + 1) 0 5 (rest.length + 1) = nI 0; rw [up2_s]; rfl
              · show up2 (up2 S9.1 4 (rest.length + 1) (nI (π e.2.2))) 5 (rest.length + 1) 0 4 j = S9.1 4 j; rw [up2_j (by decide), up2_n (fun q => by omega)]
              · show up2 (up2 S9.1 4 (rest.length + 1) (nI (π e.2.2))) 5 (rest.length + 1) 0 5 j = S9.1 5 j; rw [up2_n (fun q => by omega), up2_j (by decide)]
            obtain ⟨⟨rt9, qr9, rz9, s339⟩, ⟨kr9, q1, q2, q3⟩, rf9⟩ := rv9
            have rv1 : RV S0 V π dq (pf B 29 (B.2 29 + 1)) (kup X.1 e.1, X.2.1 + (if X.1 e.1 = true then 0 else 1), X.2.2.1, X.2.2.2.1, X.2.2.2.2 ++ [(e.2.2, bdn dq false e, nI (dq e.1))]) := by
              refine ⟨⟨by rw [pf_1, B1 0 (by decide) (by decide)]; exact rt9, ?_, rz9.tr ⟨fun j hj => by rw [pf_1]; exact B1 j (by omega) (by omega), fun k hk => by rw [pf_n (by omega), B2]⟩, by rw [pf_n (by decide), B2]; exact s339⟩, ⟨fun t ht => by rw [pf_1, B1 17 (by decide) (by decide)]; exact kr9 t ht, by rw [pf_n (by decide), B2]; exact q1, by rw [pf_n (by decide), B2]; exact q2, ?_⟩, by rw [pf_n (by decide), B2]; exact rf9.1, rf9.2.1, fun i t hi => by rw [pf_1, B1 18 (by decide) (by decide)]; exact rf9.2.2 i t hi⟩
              · unfold Qrf; rw [pf_n (by decide), pf_n (by decide), B2]; exact qr9
              · have q3 : S9.2 29 = nI X.2.2.2.2.length := q3
                rw [pf_s, B2, q3, nI_1]
                show _ = nI (X.2.2.2.2 ++ [(e.2.2, bdn dq false e, nI (dq e.1))]).length
                rw [List.length_append]; rfl
            have pt1 : Pth (pf B 29 (B.2 29 + 1)) π ((e.2.2, 0) :: (p, k + 1) :: rest) := pt9.cons (by rw [pf_1]; exact ⟨B4.1, B4.2.1⟩) (fun j hj => by rw [pf_1]; exact B4.2.2 j hj)
            have mem : ∀ x, x ∈ qpg (X.2.2.2.2 ++ [(e.2.2, bdn dq false e, nI (dq e.1))]) ↔ x ∈ qpg X.2.2.2.2 ∨ x = e.2.2 := fun x => by
              unfold qpg
              rw [List.map_append, List.mem_append]
              show _ ∨ x ∈ [e.2.2] ↔ _
              rw [List.mem_singleton]
            have := on _ _ _ (Or.inr ⟨ns', Or.inr (Or.inr (Or.inl ⟨hl, nb, rfl⟩))⟩) rv1 pt1 ⟨⟨e, by show (V.P p).es[k + 1 - 1]? = _; rw [show k + 1 - 1 = k by omega]; exact he, by show 1 ≤ k + 1; omega, rfl, hl, ns⟩, chA⟩ (Or.inr ⟨e.2.2, rfl, nw.2 hl, (mem _).mpr (Or.inr rfl), fun q hq => (mem q).mp hq⟩) (fun v => by have := congrArg List.length v; simp at this)
            have eL : nI ((e.2.2, 0) :: (p, k + 1) :: rest).length - 1 = nI (rest.length + 1) := by
              rw [List.length_cons, sl, show (1 : Int32) = nI 1 from rfl, pk_sub (by omega)]; rfl
            rw [eL, ← hB] at this
            exact this
        · rw [if_neg (nI_ge (by omega) (by omega))]
          have s : Stq V dq false true 40 r p e X (kup X.1 e.1, X.2.1 + (if X.1 e.1 = true then 0 else 1), X.2.2.1, X.2.2.2.1, X.2.2.2.2) := by
            refine Or.inr ⟨ns', ?_⟩
            cases hl : (V.P p).lf with
            | true => exact Or.inr (Or.inl ⟨rfl, ⟨rfl, by omega⟩, rfl⟩)
            | false =>
              refine Or.inr (Or.inr (Or.inr ⟨rfl, ⟨r, lm _, ?_⟩, rfl⟩))
              rw [ba_f]
              unfold bdn
              rw [if_neg (by decide)]
              omega
          have := on S9 _ _ s rv9 pt9 chA (Or.inl rfl) (fun _ q hq => hq)
          rw [sl, show (1 : Int32) = nI 1 from rfl, pk_sub (by omega)] at this
          exact this
      have w5 : wr S 5 (nI rest.length) (nI k + 1) = some A := by rw [nI_1, wr_ok (by rw [len45.2]; omega) (by omega), ← hA]
      have e1 : r_entryOf A (nI (π p)) (nI k) 1 = some (nI e.2.1) := rpA.e1 (by omega) he'
      have e0 : r_entryOf A (nI (π p)) (nI k) 0 = some (nI e.1) := rpA.e0 (by omega) he'
      rw [w5, bind_s, e1, bind_s, e0, bind_s]
      cases hrs : rest with
      | nil =>
        rw [hrs] at main ch
        have pR : p = V.R := ch
        rw [if_pos (show nI ([] : List (Nat × Nat)).length ≤ 0 by decide)]
        exact main (fun ⟨c, l, c1, _⟩ => by rw [pR, w.1.2] at c1; cases c1)
      | cons y rs =>
        rw [hrs] at main ch ptA sl
        obtain ⟨⟨f, f1, f2, f3, f4, f5⟩, -⟩ := ch
        have f3 : f.2.2 = p := f3
        obtain ⟨yq, ypr, yl⟩ := hst y (List.mem_cons_of_mem _ (by rw [hrs]; exact List.mem_cons_self ..))
        have yU := wi.1.2.1 y.1 yq
        obtain ⟨py, rpy⟩ := rtA.2.2.1 y.1 yU
        have hf' : ((V.P y.1).es.map (reE V π (V.P y.1)))[y.2 - 1]? = some (reE V π (V.P y.1) f) := by rw [List.getElem?_map, f1]; rfl
        have ce : (V.P p).ce = some f.1 := by
          have := (((w.2.1 y.1 yU).2.1 f (List.mem_of_getElem? f1)).2.2.1 f4).2.2.1
          rw [f3] at this
          exact this
        have hsf := ((w.2.1 y.1 yU).2.1 f (List.mem_of_getElem? f1)).1
        have f40 := hsf.1
        have Kf : X.1 f.1 = true := (wi.2.2.1 f.1).mpr ⟨y.1, y.2 - 1, f, by rw [ypr]; omega, f1, f5, rfl⟩
        obtain ⟨y4, y5⟩ := ptA.tl.top
        have y2 : y.2 ≤ 7 := by
          have := rpy.2.2
          rw [List.length_map] at this
          omega
        have cab : r_centreAbove A (nI (y :: rs).length) = some (nI f.1) := by
          unfold r_centreAbove
          rw [List.length_cons, show nI (rs.length + 1) - 1 = nI rs.length by rw [show (1 : Int32) = nI 1 from rfl, pk_sub (by omega)]; rfl, rd_ok (by rw [len45.1]; rw [hrs, List.length_cons] at rl; omega) (by rw [hrs, List.length_cons] at rl; omega), bind_s, y4, rd_ok (by rw [len45.2]; rw [hrs, List.length_cons] at rl; omega) (by rw [hrs, List.length_cons] at rl; omega), bind_s, y5, show nI y.2 - 1 = nI (y.2 - 1) by rw [show (1 : Int32) = nI 1 from rfl, pk_sub (by omega)], rpy.e0 (by omega) hf', bind_s]
          rfl
        have d17 : rd A 17 (nI f.1) = some (nI (dq f.1)) := by rw [rd_ok (by rw [len17.1]; exact f40) (by omega), krA f.1 f40, if_pos Kf]
        have e2 : r_entryOf A (nI (π p)) (nI k) 2 = some (nI (far V f.1 e.1)) := by
          rw [rpA.e2 (by omega) he']
          show some (nI (wy V (V.P p) e.1)) = _
          unfold wy
          rw [ce]
        have dc := hd f.1
        have fc := far_le hv f.1 e.1
        have rlen : (y :: rs).length ≤ 38 := by rw [← hrs]; exact rl
        have spe : spw V dq r p e ↔ r + e.2.1 < dq f.1 - far V f.1 e.1 + (far V f.1 e.1 - dq f.1) := by
          unfold spw spd
          constructor
          · rintro ⟨c, l, c1, c2, c3⟩
            rw [ce] at c1
            cases c1
            cases c2
            rw [if_neg (by decide)] at c3
            exact c3
          · intro h
            exact ⟨f.1, r, ce, rfl, by rw [if_neg (by decide)]; exact h⟩
        rw [if_neg (show ¬ nI (y :: rs).length ≤ 0 from nI_ge (show 0 < (y :: rs).length by rw [List.length_cons]; omega) (by omega)), cab, bind_s, d17, bind_s, e2, bind_s, r_size_sub (by omega) (by omega), bind_s, nI_add]
        by_cases v : spw V dq r p e
        · have v' := spe.mp v
          rw [if_neg (nI_ge v' (by omega))]
          have rv1 : RV S0 V π dq (pf A 28 (A.2 28 + 1)) (X.1, X.2.1, X.2.2.1 + 1, X.2.2.2.1, X.2.2.2.2) := by
            refine ⟨⟨rtA, ?_, rzA.tr ⟨fun _ _ => rfl, fun k hk => pf_n (by omega)⟩, by rw [pf_n (by decide)]; exact s33A⟩, ⟨krA, by rw [pf_n (by decide)]; exact m1, by rw [pf_s, m2, nI_1], by rw [pf_n (by decide)]; exact m3⟩, by rw [pf_n (by decide)]; exact rfA.1, rfA.2⟩
            unfold Qrf; rw [pf_n (by decide), pf_n (by decide)]; exact qrA
          rw [hrs] at on chA
          have := on _ _ _ (Or.inl ⟨by rw [lm]; exact v, rfl⟩) rv1 ptA chA (Or.inl rfl) (fun _ q hq => hq)
          have eL : nI ((p, k + 1) :: y :: rs).length - 1 = nI (y :: rs).length := by
            rw [sl, show (1 : Int32) = nI 1 from rfl, pk_sub (by omega)]; rfl
          rw [eL] at this
          exact this
        · have v' : ¬ _ := fun t => v (spe.mpr t)
          rw [if_pos (nI_le (by omega) (by omega))]
          exact main v
end WITHINR
