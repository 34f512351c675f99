section TIGHT
variable {σ : Hp} {S : MS} {V V' : Vt} {π : Nat → Nat} {g : Gh} {E : Nat} {L : List Nat} {N U E8 : Nat} {O : List Nat}
/-- the same tree but for reaches -/
def Sh (V V' : Vt) : Prop := V'.R = V.R ∧ ∀ p, (V'.P p).lf = (V.P p).lf ∧ (V'.P p).es.map (fun e => (e.1, e.2.2)) = (V.P p).es.map (fun e => (e.1, e.2.2))
theorem sh_kids (h : Sh V V') (p : Nat) : kids V' p = kids V p := by
  have := congrArg (List.map (fun x : Nat × Nat => x.2)) (h.2 p).2
  rw [List.map_map, List.map_map] at this
  unfold kids
  rw [(h.2 p).1]
  by_cases z : (V.P p).lf = true
  · rw [if_pos z, if_pos z]
  · rw [if_neg z, if_neg z]; exact this
theorem sh_ths (h : Sh V V') : ths V' = ths V := by
  funext p
  have := congrArg (List.map (fun x : Nat × Nat => x.1)) (h.2 p).2
  rw [List.map_map, List.map_map] at this
  unfold ths
  rw [(h.2 p).1]
  by_cases z : (V.P p).lf = true
  · rw [if_pos z, if_pos z]; exact this
  · rw [if_neg z, if_neg z]
theorem sh_kidI (h : Sh V V') (t : It) : kidI V' π t = kidI V π t := by
  unfold kidI
  rw [(h.2 t.1).1]
  by_cases z : (V.P t.1).lf = true
  · rw [if_pos z, if_pos z]
  · rw [if_neg z, if_neg z]
    apply List.ext_getElem?
    intro k
    have := congrArg (fun l => l[k]?) (h.2 t.1).2
    simp only [List.getElem?_map] at this
    rw [List.getElem?_mapIdx, List.getElem?_mapIdx]
    cases q : (V.P t.1).es[k]? with
    | none =>
      rw [q] at this
      cases q' : (V'.P t.1).es[k]? with
      | none => rfl
      | some e => rw [q'] at this; cases this
    | some e =>
      rw [q] at this
      cases q' : (V'.P t.1).es[k]? with
      | none => rw [q'] at this; cases this
      | some e' =>
        rw [q'] at this
        have this : some (e'.1, e'.2.2) = some (e.1, e.2.2) := this
        have : e'.2.2 = e.2.2 := by injection this with this; exact (Prod.mk.inj this).2
        simp only [Option.map_some]
        rw [this]
theorem sh_pre (h : Sh V V') : ∀ n p, pre V' n p = pre V n p
  | 0, p => rfl
  | n + 1, p => by
    unfold pre
    rw [sh_kids h p]
    congr 1
    exact fm_congr _ (fun c _ => sh_pre h n c)
theorem sh_itp (h : Sh V V') : ∀ n t, itp V' π n t = itp V π n t
  | 0, p => rfl
  | n + 1, p => by
    unfold itp
    rw [sh_kidI h p]
    congr 1
    exact fm_congr _ (fun c _ => sh_itp h n c)
theorem sh_fl (h : Sh V V') : fl V' g π = fl V g π := by unfold fl; rw [h.1]; exact sh_itp h _ _
theorem sh_spn (h : Sh V V') : spn V' g = spn V g := by funext p; unfold spn; rw [sh_pre h]
theorem sh_tbl (h : Sh V V') : tbl V' g = tbl V g := by funext p; unfold tbl; rw [sh_pre h, sh_ths h]
theorem gbl_sm (h : Sm V V') {c m : Nat} {T : List Nat} : gbl V' c m T = gbl V c m T := by
  have : gsv V' c = gsv V c := by funext m t; unfold gsv; rw [h.fa]
  unfold gbl
  rw [this]
/-- entries made tight where D says -/
def gv (V : Vt) (g : Gh) (e : Ent) : Nat := gbl V e.1 0 (tbl V g e.2.2)
def tgE (V : Vt) (g : Gh) (e : Ent) : Ent := (e.1, gv V g e, e.2.2)
def tgL (V : Vt) (g : Gh) (D : Nat → Nat → Bool) (p : Nat) : List Ent := (V.P p).es.mapIdx (fun k e => if (V.P p).lf = false ∧ D p k = true then tgE V g e else e)
def Vd (V : Vt) (g : Gh) (D : Nat → Nat → Bool) : Vt := mkV V.W V.T V.M V.C V.U V.R (fun p => mkP (V.P p).lf (V.P p).ce (tgL V g D p))
theorem tgL_get {D : Nat → Nat → Bool} {p k : Nat} : (tgL V g D p)[k]? = ((V.P p).es[k]?).map (fun e => if (V.P p).lf = false ∧ D p k = true then tgE V g e else e) := List.getElem?_mapIdx
theorem tgL_len {D : Nat → Nat → Bool} {p : Nat} : (tgL V g D p).length = (V.P p).es.length := List.length_mapIdx
theorem Vd_sm {D : Nat → Nat → Bool} : Sm V (Vd V g D) := ⟨rfl, rfl, rfl, rfl⟩
theorem Vd_sh {D : Nat → Nat → Bool} : Sh V (Vd V g D) := ⟨rfl, fun p => ⟨rfl, by
  apply List.ext_getElem?
  intro k
  show ((tgL V g D p).map _)[k]? = _
  rw [List.getElem?_map, List.getElem?_map, tgL_get]
  cases (V.P p).es[k]? with
  | none => rfl
  | some e =>
    simp only [Option.map_some]
    by_cases z : (V.P p).lf = false ∧ D p k = true
    · simp only [if_pos z]; rfl
    · simp only [if_neg z]⟩⟩
theorem Vd_wf (hv : Vw V) (w : Wf V g V.U) {D : Nat → Nat → Bool} : Wf (Vd V g D) g V.U := w.cong (fun q hq => ⟨rfl, rfl, (Vd_sh (D := D)).2 q |>.2, fun e he => by
  have he : e ∈ tgL V g D q := he
  obtain ⟨k, hk⟩ := List.mem_iff_getElem?.mp he
  rw [tgL_get] at hk
  cases q1 : (V.P q).es[k]? with
  | none => rw [q1] at hk; cases hk
  | some f =>
    rw [q1] at hk
    have hk : some (if (V.P q).lf = false ∧ D q k = true then tgE V g f else f) = some e := hk
    have wf := ((w.2.1 q hq).2.1 f (List.mem_of_getElem? q1)).2.1
    by_cases z : (V.P q).lf = false ∧ D q k = true
    · rw [if_pos z] at hk
      cases hk
      have h0 : g.ht q ≠ 0 := fun y => by
        have := (w.2.1 q hq).1.1.mpr y
        rw [z.1] at this; cases this
      have := gbl_le hv (tbl V g f.2.2) 0 (c := f.1) (by omega)
      show gbl V f.1 0 (tbl V g f.2.2) ≤ 99 * g.ht q
      omega
    · rw [if_neg z] at hk
      cases hk
      exact wf⟩)
/-- all before n, and the first k of the n-th -/
def Dx (V : Vt) (ix : Nat → Nat) (n k p j : Nat) : Bool := decide (p < V.U ∧ (ix p < n ∨ (ix p = n ∧ j < k)))
theorem Vd_0 {ix : Nat → Nat} : Vd V g (Dx V ix 0 0) = V := by
  have : ∀ p, tgL V g (Dx V ix 0 0) p = (V.P p).es := fun p => by
    apply List.ext_getElem?
    intro k
    rw [tgL_get]
    cases (V.P p).es[k]? with
    | none => rfl
    | some e =>
      simp only [Option.map_some]
      rw [if_neg (fun z => by have := of_decide_eq_true z.2; omega)]
  unfold Vd
  have e2 : (fun p => mkP (V.P p).lf (V.P p).ce (tgL V g (Dx V ix 0 0) p)) = V.P := funext fun p => by rw [this]; rfl
  rw [e2]; rfl
theorem Vd_nx {ix : Nat → Nat} (inj : ∀ p q, p < V.U → q < V.U → ix p = ix q → p = q) {n k p : Nat} (hp : p < V.U) (hi : ix p = n) (hk : (V.P p).lf = false → (V.P p).es.length ≤ k) : Vd V g (Dx V ix n k) = Vd V g (Dx V ix (n + 1) 0) := by
  have : ∀ q, tgL V g (Dx V ix n k) q = tgL V g (Dx V ix (n + 1) 0) q := fun q => by
    apply List.ext_getElem?
    intro j
    rw [tgL_get, tgL_get]
    cases q1 : (V.P q).es[j]? with
    | none => rfl
    | some e =>
      simp only [Option.map_some]
      have jl := (List.getElem?_eq_some_iff.mp q1).1
      have : ((V.P q).lf = false ∧ Dx V ix n k q j = true) ↔ ((V.P q).lf = false ∧ Dx V ix (n + 1) 0 q j = true) := by
        unfold Dx
        rw [decide_eq_true_iff, decide_eq_true_iff]
        constructor
        · rintro ⟨h1, h2, h3⟩
          exact ⟨h1, h2, by omega⟩
        · rintro ⟨h1, h2, h3⟩
          refine ⟨h1, h2, ?_⟩
          by_cases z : ix q = n
          · have := inj q p h2 hp (by omega)
            subst this
            have := hk h1
            exact Or.inr ⟨z, by omega⟩
          · exact Or.inl (by omega)
      by_cases z : (V.P q).lf = false ∧ Dx V ix n k q j = true
      · rw [if_pos z, if_pos (this.mp z)]
      · rw [if_neg z, if_neg (fun y => z (this.mpr y))]
  unfold Vd
  have e2 : (fun p => mkP (V.P p).lf (V.P p).ce (tgL V g (Dx V ix n k) p)) = (fun p => mkP (V.P p).lf (V.P p).ce (tgL V g (Dx V ix (n + 1) 0) p)) := funext fun p => by rw [this]
  rw [e2]
theorem Vd_gap {ix : Nat → Nat} {n : Nat} (hn : ∀ p, p < V.U → ix p ≠ n) : Vd V g (Dx V ix n 0) = Vd V g (Dx V ix (n + 1) 0) := by
  have : Dx V ix n 0 = Dx V ix (n + 1) 0 := by
    funext q j
    unfold Dx
    apply decide_eq_decide.mpr
    constructor
    · rintro ⟨h1, h2⟩; exact ⟨h1, by omega⟩
    · rintro ⟨h1, h2⟩; have := hn q h1; exact ⟨h1, by omega⟩
  rw [this]
theorem Vd_st {ix : Nat → Nat} (inj : ∀ p q, p < V.U → q < V.U → ix p = ix q → p = q) {n k p : Nat} {e : Ent} (hp : p < V.U) (hi : ix p = n) (hl : (V.P p).lf = false) (he : (V.P p).es[k]? = some e) : (tgL V g (Dx V ix n k) p)[k]? = some e ∧ Vd V g (Dx V ix n (k + 1)) = (Vd V g (Dx V ix n k)).sP p (mkP (V.P p).lf (V.P p).ce ((tgL V g (Dx V ix n k) p).set k (e.1, gv V g e, e.2.2))) := by
  have g1 : (tgL V g (Dx V ix n k) p)[k]? = some e := by
    rw [tgL_get, he]
    simp only [Option.map_some]
    rw [if_neg (fun z => by have := of_decide_eq_true z.2; omega)]
  refine ⟨g1, ?_⟩
  unfold Vd Vt.sP
  have e2 : (fun p => mkP (V.P p).lf (V.P p).ce (tgL V g (Dx V ix n (k + 1)) p)) = (fun q => if q = p then mkP (V.P p).lf (V.P p).ce ((tgL V g (Dx V ix n k) p).set k (e.1, gv V g e, e.2.2)) else mkP (V.P q).lf (V.P q).ce (tgL V g (Dx V ix n k) q)) := funext fun q => by
    by_cases z : q = p
    · subst z
      rw [if_pos rfl]
      congr 1
      apply List.ext_getElem?
      intro j
      rw [tgL_get]
      by_cases y : k = j
      · subst y
        rw [List.getElem?_set_self (get_lt g1), he]
        simp only [Option.map_some]
        rw [if_pos ⟨hl, decide_eq_true ⟨hp, Or.inr ⟨hi, by omega⟩⟩⟩]
        rfl
      · rw [List.getElem?_set_ne y, tgL_get]
        cases (V.P q).es[j]? with
        | none => rfl
        | some f =>
          simp only [Option.map_some]
          have : Dx V ix n (k + 1) q j = Dx V ix n k q j := by
            unfold Dx
            apply decide_eq_decide.mpr
            constructor
            · rintro ⟨h1, h2⟩; exact ⟨h1, by omega⟩
            · rintro ⟨h1, h2⟩; exact ⟨h1, by omega⟩
          rw [this]
    · rw [if_neg z]
      congr 1
      apply List.ext_getElem?
      intro j
      rw [tgL_get, tgL_get]
      cases (V.P q).es[j]? with
      | none => rfl
      | some f =>
        simp only [Option.map_some]
        have : Dx V ix n (k + 1) q j = Dx V ix n k q j := by
          unfold Dx
          apply decide_eq_decide.mpr
          constructor
          · rintro ⟨h1, h2⟩
            have : ix q ≠ n := fun y => z (inj q p h1 hp (by omega))
            exact ⟨h1, by omega⟩
          · rintro ⟨h1, h2⟩; exact ⟨h1, by omega⟩
        rw [this]
  rw [e2]; rfl
theorem i_sum (a b c d : Nat) : nI a - nI b + (nI c - nI d) = nI (a + c) - nI (b + d) := by
  rw [← nI_add, ← nI_add, Int32.sub_eq_add_neg, Int32.sub_eq_add_neg, Int32.sub_eq_add_neg, Int32.neg_add, Int32.add_assoc, Int32.add_assoc]
  congr 1
  rw [← Int32.add_assoc, Int32.add_comm (-nI b) (nI c), Int32.add_assoc, Int32.sub_eq_add_neg]
/-- what was and what is, summed over a page -/
def ra (V : Vt) (p : Nat) : Nat := if (V.P p).lf = true then 0 else ((V.P p).es.map (fun e => e.2.1)).sum
def rb (V : Vt) (g : Gh) (p : Nat) : Nat := if (V.P p).lf = true then 0 else ((V.P p).es.map (gv V g)).sum
end TIGHT
