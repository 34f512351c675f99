-- a split keeps the tree
theorem mem_insE {α : Type} {x e : α} {l : List α} {k : Nat} : x ∈ insE l k e ↔ x = e ∨ x ∈ l := by
  unfold insE
  rw [List.mem_append, List.mem_cons]
  constructor
  · rintro (h | h | h)
    · exact Or.inr (List.mem_of_mem_take h)
    · exact Or.inl h
    · exact Or.inr (List.mem_of_mem_drop h)
  · rintro (h | h)
    · exact Or.inr (Or.inl h)
    · have : x ∈ l.take k ++ l.drop k := by rw [List.take_append_drop]; exact h
      rcases List.mem_append.mp this with m | m
      · exact Or.inl m
      · exact Or.inr (Or.inr m)
theorem map_insE {α β : Type} {f : α → β} {e : α} {l : List α} {k : Nat} : (insE l k e).map f = insE (l.map f) k (f e) := by
  unfold insE
  rw [List.map_append, List.map_cons, List.map_take, List.map_drop]
theorem nodup_insE {α : Type} {e : α} {l : List α} {k : Nat} (h : l.Nodup) (he : e ∉ l) : (insE l k e).Nodup := by
  have p : (insE l k e).Perm (e :: l) := by
    unfold insE
    have : (l.take k ++ l.drop k) = l := List.take_append_drop k l
    exact (List.perm_middle).trans (by rw [this])
  rw [p.nodup_iff, List.nodup_cons]
  exact ⟨he, h⟩
theorem mem_set' {α : Type} {x y : α} {l : List α} {k : Nat} (h : x ∈ l.set k y) : x = y ∨ ∃ i, i ≠ k ∧ l[i]? = some x := by
  obtain ⟨i, hi⟩ := List.getElem?_of_mem h
  by_cases z : k = i
  · subst z
    rw [List.getElem?_set_self (by have := get_lt hi; rw [List.length_set] at this; exact this)] at hi
    exact Or.inl (Option.some.inj hi).symm
  · rw [List.getElem?_set_ne z] at hi
    exact Or.inr ⟨i, fun q => z q.symm, hi⟩
theorem map_get_inj {α : Type} {f : α → Nat} {l : List α} (h : (l.map f).Nodup) {i j : Nat} {x y : α} (h1 : l[i]? = some x) (h2 : l[j]? = some y) (e : f x = f y) : i = j := get_inj h (a := f x) (by rw [List.getElem?_map, h1]; rfl) (by rw [List.getElem?_map, h2, e]; rfl)
/-- the two halves of a page -/
def Spl (V : Vt) (g : Gh) (p : Nat) (A B : List Ent) (one two r1 r2 : Nat) : Prop := ((∀ e ∈ A, e ∈ (V.P p).es) ∧ (∀ e ∈ B, e ∈ (V.P p).es) ∧ ∀ e ∈ (V.P p).es, e ∈ A ∨ e ∈ B) ∧ (((V.P p).lf = false → ∀ e ∈ A, ∀ e' ∈ B, e.2.2 ≠ e'.2.2) ∧ ((V.P p).lf = true → ∀ e ∈ A, ∀ e' ∈ B, e.1 ≠ e'.1)) ∧ (A.length + B.length = (V.P p).es.length ∧ 0 < A.length ∧ 0 < B.length) ∧ (((V.P p).lf = false → (A.map (fun e => e.2.2)).Nodup ∧ (B.map (fun e => e.2.2)).Nodup) ∧ ((V.P p).lf = true → (A.map (fun e => e.1)).Nodup ∧ (B.map (fun e => e.1)).Nodup)) ∧ ((∃ e ∈ A, e.1 = one) ∧ (∃ e ∈ B, e.1 = two)) ∧ (r1 ≤ 99 * (g.ht p + 1) ∧ r2 ≤ 99 * (g.ht p + 1)) ∧ hs V one ∧ hs V two
section WS
variable {V : Vt} {g : Gh} {o p : Nat}
theorem Wf.spl (h : Wf V g o) (hv : Vw V) (hp : p < V.U) (h2 : 2 ≤ (V.P p).es.length) : Spl V g p (sp1 V (V.P p)).es (sp2 V (V.P p)).es (tg (V.P p).es (bst V (V.P p).es).1) (tg (V.P p).es (bst V (V.P p).es).2.1) (re1 V (V.P p)) (re2 V (V.P p)) := by
  have hes := h.es hp
  have bb := bst_ok hv (fun e he => (hes e he).2) h2
  obtain ⟨⟨b1, b2, b3, b4, b5⟩, b6, ⟨b7, b8⟩, b9, b10⟩ := h.2.1 p hp
  have hm : ∀ e ∈ (V.P p).es, e.2.1 ≤ 99 * g.ht p := fun e he => (b6 e he).2.1
  unfold sp1 sp2 re1 re2
  generalize hP : V.P p = P at *
  generalize hb : bst V P.es = bt at *
  obtain ⟨i, j, w⟩ := bt
  obtain ⟨c1, c2, c3⟩ := bb
  have c1 : i < j := c1
  have c2 : j < P.es.length := c2
  obtain ⟨ei, hei⟩ : ∃ e, P.es[i]? = some e := ⟨_, List.getElem?_eq_getElem (by omega)⟩
  obtain ⟨ej, hej⟩ : ∃ e, P.es[j]? = some e := ⟨_, List.getElem?_eq_getElem (by omega)⟩
  have si : secB V P.es i j i = false := by unfold secB; simp; omega
  have sj : secB V P.es i j j = true := by unfold secB; simp
  have mi : ei ∈ pik (fun k => !secB V P.es i j k) 0 P.es := pik_mem hei (by rw [Nat.zero_add]; simp [si])
  have mj : ej ∈ pik (secB V P.es i j) 0 P.es := pik_mem hej (by rw [Nat.zero_add]; exact sj)
  show Spl V g p (pik (fun k => !secB V P.es i j k) 0 P.es) (pik (secB V P.es i j) 0 P.es) (tg P.es i) (tg P.es j) (gr1 V P.es i j P.es.length) (gr2 V P.es i j P.es.length)
  have dj : ∀ {f : Ent → Nat}, (P.es.map f).Nodup → ∀ e ∈ pik (fun k => !secB V P.es i j k) 0 P.es, ∀ e' ∈ pik (secB V P.es i j) 0 P.es, f e ≠ f e' := fun {f} nd e he e' he' q => by
    obtain ⟨k, h1, h2⟩ := pik_of he
    obtain ⟨k', h3, h4⟩ := pik_of he'
    have := map_get_inj nd h1 h3 q
    subst this
    rw [h4] at h2
    cases h2
  have g1 := gr1_le hv (i := i) (j := j) (rg_le hm) P.es.length
  have g2 := gr2_le hv (i := i) (j := j) (rg_le hm) P.es.length
  unfold Spl
  rw [hP]
  refine ⟨⟨fun e he => (pik_sub _ _).subset he, fun e he => (pik_sub _ _).subset he, fun e he => ?_⟩, ⟨fun z => dj (b7 z), fun z => dj (b8 z)⟩, ⟨pik_two _ _, List.length_pos_of_mem mi, List.length_pos_of_mem mj⟩, ⟨fun z => ⟨(b7 z).sublist ((pik_sub _ _).map _), (b7 z).sublist ((pik_sub _ _).map _)⟩, fun z => ⟨(b8 z).sublist ((pik_sub _ _).map _), (b8 z).sublist ((pik_sub _ _).map _)⟩⟩, ⟨⟨ei, mi, (tg_eq hei).symm⟩, ⟨ej, mj, (tg_eq hej).symm⟩⟩, ⟨by omega, by omega⟩, by rw [tg_eq hei]; exact (hes ei (List.mem_of_getElem? hei)).1, by rw [tg_eq hej]; exact (hes ej (List.mem_of_getElem? hej)).1⟩
  obtain ⟨k, hk⟩ := List.getElem?_of_mem he
  by_cases z : secB V P.es i j k = true
  · exact Or.inr (pik_mem hk (by rw [Nat.zero_add]; exact z))
  · exact Or.inl (pik_mem hk (by rw [Nat.zero_add]; simp [z]))
/-- all pages but the parent -/
theorem Wf.parts (h : Wf V g p) (hp : p < V.U) {A B : List Ent} {one two r1 r2 : Nat} (sp : Spl V g p A B one two r1 r2) {V' : Vt} {g' : Gh} {q : Nat} {Q : Pg} (eC : V'.C = V.C) (eh : ∀ x, hs V' x ↔ hs V x) (hU : V.U < V'.U) (hqU : q < V'.U) (hqn : q ≠ p ∧ q ≠ V.U) (P1 : V'.P p = mkP (V.P p).lf (some one) A) (P2 : V'.P V.U = mkP (V.P p).lf (some two) B) (P3 : V'.P q = Q) (P4 : ∀ r, r < V.U → r ≠ p → r ≠ q → V'.P r = V.P r) (Ql : Q.lf = false) (Q1 : ∃ e ∈ Q.es, e.2.2 = p) (Q2 : ∃ e ∈ Q.es, e.2.2 = V.U) (Q3 : ∀ r, r < V.U → r ≠ p → r ≠ V.R → g.pa r = q → ∃ e ∈ Q.es, e.2.2 = r) (qc : q < V.U → Q.ce = (V.P q).ce ∧ g.ht q = g.ht p + 1 ∧ (V.P q).lf = false)
    (t1 : ∀ r, r < V.U → g'.ht r = g.ht r) (t2 : g'.ht V.U = g.ht p) (n1 : g'.pa p = q) (n2 : g'.pa V.U = q) (n3 : ∀ r, r < V.U → r ≠ p → (V.P p).lf = false → (∃ e ∈ B, e.2.2 = r) → g'.pa r = V.U) (n4 : ∀ r, r < V.U → r ≠ p → ¬ ((V.P p).lf = false ∧ ∃ e ∈ B, e.2.2 = r) → g'.pa r = g.pa r) (l1 : ∀ t, (V.P p).lf = true → (∃ e ∈ B, e.1 = t) → g'.lo t = some V.U) (l2 : ∀ t, ¬ ((V.P p).lf = true ∧ ∃ e ∈ B, e.1 = t) → g'.lo t = g.lo t)
    (R1 : p ≠ V'.R) (R2 : V.U ≠ V'.R) (R3 : ∀ r, r < V.U → r ≠ p → (r = V'.R ↔ r = V.R)) (R4 : g.ht V.R ≤ g'.ht V'.R) (pq : p ≠ V.R → g.pa p = q) : (∀ r, r ≤ V.U → r ≠ q → Wp V' g' q r) ∧ (∀ t r, g'.lo t = some r → t < 40 ∧ r < V'.U ∧ (V'.P r).lf = true ∧ ∃ e ∈ (V'.P r).es, e.1 = t) := by
  obtain ⟨⟨a1, a2⟩, b, c, d⟩ := h
  obtain ⟨⟨s1, s2, s3⟩, ⟨s4, s5⟩, ⟨s6, s7, s8⟩, ⟨s9, s10⟩, ⟨s11, s12⟩, -, -⟩ := sp
  obtain ⟨⟨b1, b2, b3, b4, b5⟩, b6, ⟨b7, b8⟩, b9, b10⟩ := b p hp
  rw [if_pos rfl] at b2
  -- children of p
  have ch : (V.P p).lf = false → ∀ e ∈ (V.P p).es, e.2.2 < V.U ∧ e.2.2 ≠ p ∧ e.2.2 ≠ q ∧ V'.P e.2.2 = V.P e.2.2 ∧ e.2.2 ≠ V'.R := fun z e he => by
    obtain ⟨c1, c2, c3, c4, c5⟩ := (b6 e he).2.2.1 z
    have n1 : e.2.2 ≠ p := fun y => by rw [y] at c2; omega
    have n2 : e.2.2 ≠ q := fun y => by
      have := (qc (y ▸ c1)).2.1
      rw [← y] at this
      omega
    exact ⟨c1, n1, n2, P4 _ c1 n1 n2, fun y => c5 ((R3 _ c1 n1).mp y)⟩
  have half : ∀ (r : Nat) (X : List Ent) (ctr : Nat), (r = p ∨ r = V.U) → V'.P r = mkP (V.P p).lf (some ctr) X → (∀ e ∈ X, e ∈ (V.P p).es) → X.length ≤ V.C → 0 < X.length → ((V.P p).lf = false → (X.map (fun e => e.2.2)).Nodup) → ((V.P p).lf = true → (X.map (fun e => e.1)).Nodup) → (∃ e ∈ X, e.1 = ctr) → g'.ht r = g.ht p → g'.pa r = q → (∃ e ∈ Q.es, e.2.2 = r) → ((V.P p).lf = false → ∀ e ∈ X, g'.pa e.2.2 = r) → ((V.P p).lf = true → ∀ e ∈ X, g'.lo e.1 = some r) → Wp V' g' q r := by
    intro r X ctr hr PX hX xl x0 nd1 nd2 hc ht hpa hQ hpx hlx
    have rR : r ≠ V'.R := by rcases hr with rfl | rfl; exact R1; exact R2
    unfold Wp
    rw [PX, hpa, P3]
    refine ⟨⟨by show (V.P p).lf = true ↔ _; rw [ht]; exact b1, by show X.length ≤ _; rw [eC]; omega, fun _ => x0, fun _ y => absurd y rR, by rw [ht]; omega⟩, fun e he => ?_, ⟨nd1, nd2⟩, fun _ k hk => ?_, fun _ => ⟨hqU, Ql, hQ⟩⟩
    · obtain ⟨c1, c2, c3, c4⟩ := b6 e (hX e he)
      refine ⟨(eh _).mpr c1, by rw [ht]; exact c2, fun z => ?_, fun z => hlx z e he⟩
      obtain ⟨k1, k2, k3, k4, k5⟩ := ch z e (hX e he)
      obtain ⟨m1, m2, m3, m4, m5⟩ := c3 z
      exact ⟨by omega, by rw [t1 _ k1, ht]; exact m2, by rw [k4]; exact m3, hpx z e he, k5⟩
    · have : some ctr = some k := hk
      cases this
      exact hc
  constructor
  · intro r hr hrq
    by_cases z1 : r = p
    · rw [z1]
      refine half p A one (Or.inl rfl) P1 s1 (by omega) s7 (fun z => (s9 z).1) (fun z => (s10 z).1) s11 (t1 p hp) n1 Q1 (fun z e he => ?_) (fun z e he => ?_)
      · obtain ⟨k1, k2, k3, k4, k5⟩ := ch z e (s1 e he)
        rw [n4 _ k1 k2 (fun y => by obtain ⟨e', h1, h2⟩ := y.2; exact s4 z e he e' h1 h2.symm)]
        exact ((b6 e (s1 e he)).2.2.1 z).2.2.2.1
      · rw [l2 _ (fun y => by obtain ⟨e', h1, h2⟩ := y.2; exact s5 z e he e' h1 h2.symm)]
        exact (b6 e (s1 e he)).2.2.2 z
    · by_cases z2 : r = V.U
      · rw [z2]
        refine half V.U B two (Or.inr rfl) P2 s2 (by omega) s8 (fun z => (s9 z).2) (fun z => (s10 z).2) s12 t2 n2 Q2 (fun z e he => ?_) (fun z e he => l1 _ z ⟨e, he, rfl⟩)
        obtain ⟨k1, k2, k3, k4, k5⟩ := ch z e (s2 e he)
        exact n3 _ k1 k2 z ⟨e, he, rfl⟩
      · have hr : r < V.U := by omega
        obtain ⟨⟨d1, d2, d3, d4, d5⟩, d6, ⟨d7, d8⟩, d9, d10⟩ := b r hr
        rw [if_neg z1] at d2
        unfold Wp
        rw [P4 r hr z1 hrq, t1 r hr]
        refine ⟨⟨d1, by rw [eC]; omega, fun y => d3 (fun x => y ((R3 r hr z1).mpr x)), fun y1 y2 => d4 y1 ((R3 r hr z1).mp y2), by omega⟩, fun e he => ?_, ⟨d7, d8⟩, d9, fun y => ?_⟩
        · obtain ⟨c1, c2, c3, c4⟩ := d6 e he
          refine ⟨(eh _).mpr c1, c2, fun z => ?_, fun z => ?_⟩
          · obtain ⟨m1, m2, m3, m4, m5⟩ := c3 z
            have np : e.2.2 ≠ p := fun y => by
              rw [y] at m4 m5
              exact hrq (m4.symm.trans (pq m5))
            have ce' : (V'.P e.2.2).ce = (V.P e.2.2).ce := by
              by_cases yq : e.2.2 = q
              · rw [yq, P3]; exact (qc (yq ▸ m1)).1
              · rw [P4 _ m1 np yq]
            refine ⟨by omega, by rw [t1 _ m1]; exact m2, by rw [ce']; exact m3, ?_, fun y => m5 ((R3 _ m1 np).mp y)⟩
            rw [n4 _ m1 np (fun y => by
              obtain ⟨e', h1, h2⟩ := y.2
              have := ((b6 e' (s2 e' h1)).2.2.1 y.1).2.2.2.1
              rw [h2, m4] at this
              exact z1 this)]
            exact m4
          · rw [l2 _ (fun y => by
              obtain ⟨e', h1, h2⟩ := y.2
              have k1 := (b6 e' (s2 e' h1)).2.2.2 y.1
              rw [h2, c4 z] at k1
              exact z1 (Option.some.inj k1))]
            exact c4 z
        · have yR : r ≠ V.R := fun x => y ((R3 r hr z1).mpr x)
          obtain ⟨c1, c2, e, c3, c4⟩ := d10 yR
          by_cases w : (V.P p).lf = false ∧ ∃ e ∈ B, e.2.2 = r
          · rw [n3 r hr z1 w.1 w.2, P2]
            exact ⟨by omega, w.1, w.2⟩
          · rw [n4 r hr z1 w]
            by_cases x1 : g.pa r = p
            · rw [x1, P1]
              rw [x1] at c2 c3
              refine ⟨by omega, c2, e, ?_, c4⟩
              rcases s3 e c3 with m | m
              · exact m
              · exact absurd ⟨c2, e, m, c4⟩ w
            · by_cases x2 : g.pa r = q
              · rw [x2, P3]
                exact ⟨hqU, Ql, Q3 r hr z1 yR x2⟩
              · rw [P4 _ c1 x1 x2]
                exact ⟨by omega, c2, e, c3, c4⟩
  · intro t r hr
    by_cases w : (V.P p).lf = true ∧ ∃ e ∈ B, e.1 = t
    · rw [l1 t w.1 w.2] at hr
      cases hr
      obtain ⟨e, h1, h2⟩ := w.2
      rw [P2]
      exact ⟨by rw [← h2]; exact (b6 e (s2 e h1)).1.1, hU, w.1, e, h1, h2⟩
    · rw [l2 t w] at hr
      obtain ⟨c1, c2, c3, e, c4, c5⟩ := c t r hr
      by_cases z1 : r = p
      · subst z1
        rw [P1]
        refine ⟨c1, by omega, c3, e, ?_, c5⟩
        rcases s3 e c4 with m | m
        · exact m
        · exact absurd ⟨c3, e, m, c5⟩ w
      · have z2 : r ≠ q := fun y => by
          have := (qc (y ▸ c2)).2.2
          rw [← y, c3] at this
          cases this
        rw [P4 r c2 z1 z2]
        exact ⟨c1, by omega, c3, e, c4, c5⟩
end WS
