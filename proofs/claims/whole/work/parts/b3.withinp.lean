section WITHINP
variable {V : Vt} {g : Gh} {dq : Nat → Nat} {r : Nat}
noncomputable def c01 (P : Prop) : Nat := @ite Nat P (Classical.propDecidable P) 1 0
theorem c01_t {P : Prop} (h : P) : c01 P = 1 := by unfold c01; rw [if_pos h]
theorem c01_f {P : Prop} (h : ¬ P) : c01 P = 0 := by unfold c01; rw [if_neg h]
/-- spared, and gone into, when the limit stays -/
def spw (V : Vt) (dq : Nat → Nat) (r p : Nat) (e : Ent) : Prop := spd V dq false (some r) p e
def inn (V : Vt) (dq : Nat → Nat) (r p : Nat) (e : Ent) : Prop := (V.P p).lf = false ∧ ¬ spw V dq r p e ∧ dq e.1 - e.2.1 ≤ r
def cnt (K : Nat → Bool) : Nat := su (fun t => if K t = true then 1 else 0) 40
noncomputable def nsp (V : Vt) (dq : Nat → Nat) (r p k : Nat) : Nat := su (fun j => c01 (∃ e, (V.P p).es[j]? = some e ∧ spw V dq r p e)) k
/-- some entry that was looked at -/
def EX (V : Vt) (pr : Nat → Nat) (P : Nat → Ent → Prop) : Prop := ∃ q j e, j < pr q ∧ (V.P q).es[j]? = some e ∧ P q e
def pu (pr : Nat → Nat) (p : Nat) : Nat → Nat := fun x => if x = p then pr p + 1 else pr x
theorem ex_pu {pr : Nat → Nat} {p : Nat} {e : Ent} {P : Nat → Ent → Prop} (he : (V.P p).es[pr p]? = some e) : EX V (pu pr p) P ↔ EX V pr P ∨ P p e := by
  constructor
  · rintro ⟨q, j, f, h1, h2, h3⟩
    unfold pu at h1
    by_cases z : q = p
    · subst z
      rw [if_pos rfl] at h1
      by_cases y : j = pr q
      · rw [y, he] at h2
        cases h2
        exact Or.inr h3
      · exact Or.inl ⟨q, j, f, by omega, h2, h3⟩
    · rw [if_neg z] at h1
      exact Or.inl ⟨q, j, f, h1, h2, h3⟩
  · rintro (⟨q, j, f, h1, h2, h3⟩ | h)
    · refine ⟨q, j, f, ?_, h2, h3⟩
      unfold pu
      by_cases z : q = p
      · rw [if_pos z, ← z]; omega
      · rw [if_neg z]; exact h1
    · refine ⟨p, pr p, e, ?_, he, h⟩
      unfold pu
      rw [if_pos rfl]
      omega
theorem cnt_kup {K : Nat → Bool} {t : Nat} (ht : t < 40) : cnt (kup K t) = cnt K + if K t = true then 0 else 1 := by
  unfold cnt
  rw [su_upd (f := fun x => if K x = true then 1 else 0) (h := fun x => if kup K t x = true then 1 else 0) (k := t) (d := if K t = true then 0 else 1) (by
    show (if kup K t t = true then 1 else 0) = (if K t = true then 1 else 0) + if K t = true then 0 else 1
    rw [show kup K t t = true from if_pos rfl, if_pos rfl]
    split <;> rfl) (fun i hi => by
    show (if kup K t i = true then 1 else 0) = _
    rw [show kup K t i = K i from if_neg hi]) 40, if_pos ht]
/-- what holds amid a search within, whatever its order -/
def WI (V : Vt) (dq : Nat → Nat) (r : Nat) (pr : Nat → Nat) (X : Xs) : Prop := ((qpg X.2.2.2.2).Nodup ∧ (∀ p ∈ qpg X.2.2.2.2, p < V.U) ∧ ∀ p, p ∉ qpg X.2.2.2.2 → pr p = 0) ∧ (∀ x, x ∈ qpg X.2.2.2.2 ↔ x = V.R ∨ EX V pr (fun q e => inn V dq r q e ∧ e.2.2 = x)) ∧ (∀ t, X.1 t = true ↔ EX V pr (fun q e => ¬ spw V dq r q e ∧ e.1 = t)) ∧ (X.2.1 = cnt X.1 ∧ X.2.2.1 = su (fun p => nsp V dq r p (pr p)) V.U) ∧ (∀ t, t ∈ X.2.2.2.1 ↔ EX V pr (fun q e => (V.P q).lf = true ∧ ¬ spw V dq r q e ∧ dq e.1 ≤ r ∧ e.1 = t)) ∧ Srt false dq X.2.2.2.1
theorem WI.q {pr : Nat → Nat} {X : Xs} (h : WI V dq r pr X) {q j : Nat} (hj : j < pr q) : q ∈ qpg X.2.2.2.2 ∧ q < V.U := by
  by_cases z : q ∈ qpg X.2.2.2.2
  · exact ⟨z, h.1.2.1 q z⟩
  · have := h.1.2.2 q z
    omega
/-- the next entry is none that was seen before -/
theorem WI.new {pr : Nat → Nat} {X : Xs} (h : WI V dq r pr X) (w : Wf V g V.U) {p : Nat} {e : Ent} (hp : p < V.U) (he : (V.P p).es[pr p]? = some e) : ((V.P p).lf = true → e.1 ∉ X.2.2.2.1) ∧ ((V.P p).lf = false → e.2.2 ∉ qpg X.2.2.2.2) := by
  refine ⟨fun hl z => ?_, fun hl z => ?_⟩
  · obtain ⟨q, j, f, h1, h2, h3, -, -, h6⟩ := (h.2.2.2.2.1 e.1).mp z
    have qU := (h.q h1).2
    have l1 := ((w.2.1 q qU).2.1 f (List.mem_of_getElem? h2)).2.2.2 h3
    have l2 := ((w.2.1 p hp).2.1 e (List.mem_of_getElem? he)).2.2.2 hl
    rw [h6, l2] at l1
    cases l1
    have := nd_eq ((w.2.1 p hp).2.2.1.2 hl) (i := j) (j := pr p) (a := e.1) (by rw [List.getElem?_map, h2, ← h6]; rfl) (by rw [List.getElem?_map, he]; rfl)
    omega
  · obtain ⟨k1, k2, k3, k4, k5⟩ := ((w.2.1 p hp).2.1 e (List.mem_of_getElem? he)).2.2.1 hl
    rcases (h.2.1 e.2.2).mp z with z | ⟨q, j, f, h1, h2, h3, h4⟩
    · exact k5 z
    · have qU := (h.q h1).2
      obtain ⟨l1, l2, l3, l4, l5⟩ := ((w.2.1 q qU).2.1 f (List.mem_of_getElem? h2)).2.2.1 h3.1
      have qp : q = p := by rw [← l4, h4]; exact k4
      subst qp
      have := nd_eq ((w.2.1 q hp).2.2.1.1 hl) (i := j) (j := pr q) (a := e.2.2) (by rw [List.getElem?_map, h2, ← h4]; rfl) (by rw [List.getElem?_map, he]; rfl)
      omega
theorem WI.step {most : Nat} {pr : Nat → Nat} {X X' : Xs} {p : Nat} {e : Ent} (h : WI V dq r pr X) (w : Wf V g V.U) (hp : p ∈ qpg X.2.2.2.2) (he : (V.P p).es[pr p]? = some e) (s : Stq V dq false true most r p e X X') : WI V dq r (pu pr p) X' := by
  have nw := h.new w (h.1.2.1 p hp) he
  obtain ⟨⟨h1, h2, h3⟩, h4, h5, ⟨h6, h7⟩, h8, h9⟩ := h
  have pU := h2 p hp
  have lm : lmt dq true most r X.2.2.2.1 = some r := if_pos rfl
  have hse := ((w.2.1 p pU).2.1 e (List.mem_of_getElem? he)).1
  unfold Stq at s
  rw [lm] at s
  have pr0 : ∀ Q' : List Qi, (∀ x, x ∈ qpg X.2.2.2.2 → x ∈ qpg Q') → ∀ q, q ∉ qpg Q' → pu pr p q = 0 := fun Q' hq q hn => by
    unfold pu
    rw [if_neg (fun z => hn (hq q (by rw [z]; exact hp)))]
    exact h3 q (fun z => hn (hq q z))
  have spn : ∀ b, (spw V dq r p e → b = 1) → (¬ spw V dq r p e → b = 0) → su (fun q => nsp V dq r q (pu pr p q)) V.U = su (fun q => nsp V dq r q (pr q)) V.U + b := fun b b1 b2 => by
    rw [su_upd (f := fun q => nsp V dq r q (pr q)) (h := fun q => nsp V dq r q (pu pr p q)) (k := p) (d := b) ?_ ?_ V.U, if_pos pU]
    · show nsp V dq r p (pu pr p p) = nsp V dq r p (pr p) + b
      rw [show pu pr p p = pr p + 1 from if_pos rfl]
      show nsp V dq r p (pr p) + c01 _ = _
      by_cases z : spw V dq r p e
      · rw [c01_t ⟨e, he, z⟩, b1 z]
      · rw [c01_f (fun ⟨f, f1, f2⟩ => z (by rw [he] at f1; cases f1; exact f2)), b2 z]
    · intro q hq
      show nsp V dq r q (pu pr p q) = _
      rw [show pu pr p q = pr q from if_neg hq]
  have kk : ∀ t, kup X.1 e.1 t = true ↔ X.1 t = true ∨ e.1 = t := fun t => by
    unfold kup
    by_cases z : t = e.1
    · rw [if_pos z]; exact ⟨fun _ => Or.inr z.symm, fun _ => rfl⟩
    · rw [if_neg z]; exact ⟨Or.inl, fun y => y.resolve_right (fun v => z v.symm)⟩
  rcases s with ⟨z, rfl⟩ | ⟨z, s⟩
  · have z : spw V dq r p e := z
    refine ⟨⟨h1, h2, pr0 _ (fun _ y => y)⟩, fun x => ?_, fun t => ?_, ⟨h6, ?_⟩, fun t => ?_, h9⟩
    · rw [ex_pu he, h4 x]
      exact ⟨fun y => y.elim Or.inl (fun y => Or.inr (Or.inl y)), fun y => y.elim Or.inl (fun y => y.elim Or.inr (fun v => absurd z v.1.2.1))⟩
    · rw [ex_pu he, h5 t]
      exact ⟨Or.inl, fun y => y.elim id (fun v => absurd z v.1)⟩
    · show X.2.2.1 + 1 = _
      rw [spn 1 (fun _ => rfl) (fun y => absurd z y), h7]
    · rw [ex_pu he, h8 t]
      exact ⟨Or.inl, fun y => y.elim id (fun v => absurd z v.2.1)⟩
  · have z : ¬ spw V dq r p e := z
    have pd' : X.2.1 + (if X.1 e.1 = true then 0 else 1) = cnt (kup X.1 e.1) := by rw [cnt_kup hse.1, h6]
    have sp' : X.2.2.1 = su (fun q => nsp V dq r q (pu pr p q)) V.U := by rw [spn 0 (fun y => absurd y z) (fun _ => rfl), h7]; rfl
    have K' : ∀ t, kup X.1 e.1 t = true ↔ EX V (pu pr p) (fun q e => ¬ spw V dq r q e ∧ e.1 = t) := fun t => by
      rw [ex_pu he, kk t, h5 t]
      exact ⟨fun y => y.elim Or.inl (fun v => Or.inr ⟨z, v⟩), fun y => y.elim Or.inl (fun v => Or.inr v.2)⟩
    have Qsame : ¬ inn V dq r p e → ∀ x, x ∈ qpg X.2.2.2.2 ↔ x = V.R ∨ EX V (pu pr p) (fun q e => inn V dq r q e ∧ e.2.2 = x) := fun ni x => by
      rw [ex_pu he, h4 x]
      exact ⟨fun y => y.elim Or.inl (fun y => Or.inr (Or.inl y)), fun y => y.elim Or.inl (fun y => y.elim Or.inr (fun v => absurd v.1 ni))⟩
    have Rsame : ¬ ((V.P p).lf = true ∧ dq e.1 ≤ r) → ∀ t, t ∈ X.2.2.2.1 ↔ EX V (pu pr p) (fun q e => (V.P q).lf = true ∧ ¬ spw V dq r q e ∧ dq e.1 ≤ r ∧ e.1 = t) := fun ni t => by
      rw [ex_pu he, h8 t]
      exact ⟨Or.inl, fun y => y.elim id (fun v => absurd ⟨v.1, v.2.2.1⟩ ni)⟩
    rcases s with ⟨hl, y, c, ⟨c0, c1, c2⟩, rfl⟩ | ⟨hl, ⟨-, y⟩, rfl⟩ | ⟨hl, nb, rfl⟩ | ⟨hl, nb, rfl⟩
    · refine ⟨⟨h1, h2, pr0 _ (fun _ y => y)⟩, Qsame (fun v => by rw [v.1] at hl; cases hl), K', ⟨pd', sp'⟩, fun t => ?_, h9.ins c1 c2⟩
      show t ∈ lin X.2.2.2.1 c e.1 ↔ _
      rw [lin_mem, ex_pu he, h8 t]
      exact ⟨fun v => v.elim (fun v => Or.inr ⟨hl, z, y rfl, v.symm⟩) Or.inl, fun v => v.elim Or.inr (fun v => Or.inl v.2.2.2.symm)⟩
    · exact ⟨⟨h1, h2, pr0 _ (fun _ y => y)⟩, Qsame (fun v => by rw [v.1] at hl; cases hl), K', ⟨pd', sp'⟩, Rsame (fun v => by have := v.2; omega), h9⟩
    · have ii : inn V dq r p e := ⟨hl, z, by
        by_cases v : dq e.1 - e.2.1 ≤ r
        · exact v
        · exact absurd ⟨r, rfl, by rw [ba_f]; show r < bdn dq false e; unfold bdn; rw [if_neg (by decide)]; omega⟩ nb⟩
      have mem : ∀ x, x ∈ qpg (X.2.2.2.2 ++ [(e.2.2, bdn dq false e, nI (dq e.1))]) ↔ x ∈ qpg X.2.2.2.2 ∨ x = e.2.2 := fun x => by
        unfold qpg
        rw [List.map_append, List.mem_append]
        show _ ∨ x ∈ [e.2.2] ↔ _
        rw [List.mem_singleton]
      have kU := (((w.2.1 p pU).2.1 e (List.mem_of_getElem? he)).2.2.1 hl).1
      refine ⟨⟨?_, fun x hx => ?_, pr0 _ (fun x hx => (mem x).mpr (Or.inl hx))⟩, fun x => ?_, K', ⟨pd', sp'⟩, Rsame (fun v => by rw [v.1] at hl; cases hl), h9⟩
      · show (qpg (X.2.2.2.2 ++ [(e.2.2, bdn dq false e, nI (dq e.1))])).Nodup
        unfold qpg
        rw [List.map_append, List.nodup_append]
        refine ⟨h1, by simp, fun x hx y hy => ?_⟩
        rw [List.mem_singleton.mp hy]
        intro v
        have v : x = e.2.2 := v
        exact nw.2 hl (by rw [← v]; exact hx)
      · rcases (mem x).mp hx with v | v
        · exact h2 x v
        · rw [v]; exact kU
      · show x ∈ qpg (X.2.2.2.2 ++ [(e.2.2, bdn dq false e, nI (dq e.1))]) ↔ _
        rw [mem x, ex_pu he, h4 x]
        constructor
        · rintro ((v | v) | v)
          · exact Or.inl v
          · exact Or.inr (Or.inl v)
          · exact Or.inr (Or.inr ⟨ii, v.symm⟩)
        · rintro (v | v | v)
          · exact Or.inl (Or.inl v)
          · exact Or.inl (Or.inr v)
          · exact Or.inr v.2.symm
    · refine ⟨⟨h1, h2, pr0 _ (fun _ y => y)⟩, Qsame (fun v => ?_), K', ⟨pd', sp'⟩, Rsame (fun v => by rw [v.1] at hl; cases hl), h9⟩
      obtain ⟨l, l1, l2⟩ := nb
      cases l1
      rw [ba_f] at l2
      have l2 : r < bdn dq false e := l2
      unfold bdn at l2
      rw [if_neg (by decide)] at l2
      have := v.2.2
      omega
/-- the order is all one -/
theorem WI.uniq {pr pr' : Nat → Nat} {X X' : Xs} (w : Wf V g V.U) (h : WI V dq r pr X) (h' : WI V dq r pr' X') (c : ∀ p ∈ qpg X.2.2.2.2, pr p = (V.P p).es.length) (c' : ∀ p ∈ qpg X'.2.2.2.2, pr' p = (V.P p).es.length) : X.1 = X'.1 ∧ X.2.1 = X'.2.1 ∧ X.2.2.1 = X'.2.2.1 ∧ X.2.2.2.1 = X'.2.2.2.1 ∧ X.2.2.2.2.length = X'.2.2.2.2.length := by
  have sub : ∀ {pr pr' : Nat → Nat} {X X' : Xs}, WI V dq r pr X → WI V dq r pr' X' → (∀ p ∈ qpg X'.2.2.2.2, pr' p = (V.P p).es.length) → ∀ (n x : Nat), g.ht V.R - g.ht x = n → x ∈ qpg X.2.2.2.2 → x ∈ qpg X'.2.2.2.2 := by
    intro pr pr' X X' h h' c' n
    induction n using Nat.strongRecOn with
    | _ n ih =>
      intro x hn hx
      rcases (h.2.1 x).mp hx with z | ⟨q, j, e, h1, h2, h3, h4⟩
      · exact (h'.2.1 x).mpr (Or.inl z)
      · obtain ⟨q1, q2⟩ := h.q h1
        obtain ⟨k1, k2, k3⟩ := ((w.2.1 q q2).2.1 e (List.mem_of_getElem? h2)).2.2.1 h3.1
        have hr := (w.2.1 q q2).1.2.2.2.2
        rw [h4] at k2
        have qm := ih (g.ht V.R - g.ht q) (by omega) q rfl q1
        refine (h'.2.1 x).mpr (Or.inr ⟨q, j, e, ?_, h2, h3, h4⟩)
        rw [c' q qm]
        exact (List.getElem?_eq_some_iff.mp h2).1
  have mem : ∀ x, x ∈ qpg X.2.2.2.2 ↔ x ∈ qpg X'.2.2.2.2 := fun x => ⟨sub h h' c' _ x rfl, sub h' h c _ x rfl⟩
  have pe : pr = pr' := by
    funext p
    by_cases z : p ∈ qpg X.2.2.2.2
    · rw [c p z, c' p ((mem p).mp z)]
    · rw [h.1.2.2 p z, h'.1.2.2 p (fun y => z ((mem p).mpr y))]
  subst pe
  have ke : X.1 = X'.1 := by
    funext t
    have := (h.2.2.1 t).trans (h'.2.2.1 t).symm
    cases q : X.1 t with
    | true => exact (this.mp q).symm
    | false =>
      cases q' : X'.1 t with
      | true => rw [this.mpr q'] at q; cases q
      | false => rfl
  refine ⟨ke, by rw [h.2.2.2.1.1, h'.2.2.2.1.1, ke], by rw [h.2.2.2.1.2, h'.2.2.2.1.2], h.2.2.2.2.2.uniq h'.2.2.2.2.2 (fun x => (h.2.2.2.2.1 x).trans (h'.2.2.2.2.1 x).symm), ?_⟩
  have a := nd_sub _ _ h.1.1 (fun x hx => (mem x).mp hx)
  have b := nd_sub _ _ h'.1.1 (fun x hx => (mem x).mpr hx)
  unfold qpg at a b
  rw [List.length_map, List.length_map] at a b
  omega
end WITHINP
