section RORDER
variable {V : Vt} {g : Gh} {π : Nat → Nat}
/-- a page on its way: page, depth, the reference's page above, place in it -/
abbrev It : Type := Nat × Nat × Int32 × Int32
theorem fm_congr {α β : Type} {f h : α → List β} : ∀ (l : List α), (∀ c ∈ l, f c = h c) → l.flatMap f = l.flatMap h
  | [], _ => rfl
  | x :: l, q => by
    rw [List.flatMap_cons, List.flatMap_cons, q x (List.mem_cons_self ..), fm_congr l (fun c hc => q c (List.mem_cons_of_mem _ hc))]
def kidI (V : Vt) (π : Nat → Nat) (t : It) : List It := if (V.P t.1).lf = true then [] else (V.P t.1).es.mapIdx (fun k e => ((e.2.2, t.2.1 + 1, nI (π t.1), nI k) : It))
def itp (V : Vt) (π : Nat → Nat) : Nat → It → List It
  | 0, t => [t]
  | h + 1, t => t :: (kidI V π t).flatMap (itp V π h)
theorem kidI_kids (t : It) : (kidI V π t).map (fun x => x.1) = kids V t.1 := by
  unfold kidI kids
  by_cases z : (V.P t.1).lf = true
  · rw [if_pos z, if_pos z]; rfl
  · rw [if_neg z, if_neg z]
    apply List.ext_getElem?
    intro k
    rw [List.getElem?_map, List.getElem?_mapIdx, List.getElem?_map]
    cases (V.P t.1).es[k]? <;> rfl
theorem itp_pre : ∀ (h : Nat) (t : It), (itp V π h t).map (fun x => x.1) = pre V h t.1
  | 0, t => rfl
  | h + 1, t => by
    show t.1 :: ((kidI V π t).flatMap (itp V π h)).map (fun x => x.1) = t.1 :: (kids V t.1).flatMap (pre V h)
    rw [← kidI_kids (π := π), List.map_flatMap, List.flatMap_map]
    congr 1
    congr 1
    funext x
    exact itp_pre h x
/-- what a stack of pages gives -/
def stk (V : Vt) (g : Gh) (π : Nat → Nat) (st : List It) : List It := st.flatMap (fun t => itp V π (g.ht t.1) t)
theorem itp_pos (h : Nat) (t : It) : 1 ≤ (itp V π h t).length := by
  cases h with
  | zero => exact Nat.le_refl _
  | succ h => show 1 ≤ (_ :: _).length; rw [List.length_cons]; omega
theorem stk_len (st : List It) : st.length ≤ (stk V g π st).length := by
  induction st with
  | nil => exact Nat.le_refl _
  | cons t st ih =>
    have := itp_pos (V := V) (π := π) (g.ht t.1) t
    show _ ≤ (itp V π (g.ht t.1) t ++ stk V g π st).length
    rw [List.length_append, List.length_cons]
    omega
theorem stk_step (w : Wf V g V.U) {t : It} (ht : t.1 < V.U) (st : List It) : stk V g π (t :: st) = t :: stk V g π (kidI V π t ++ st) := by
  show itp V π (g.ht t.1) t ++ stk V g π st = _
  have e : stk V g π (kidI V π t ++ st) = stk V g π (kidI V π t) ++ stk V g π st := List.flatMap_append ..
  rw [e]
  have ck : ∀ c ∈ kidI V π t, g.ht c.1 + 1 = g.ht t.1 := fun c hc => by
    have : c.1 ∈ kids V t.1 := by rw [← kidI_kids (π := π)]; exact List.mem_map.mpr ⟨c, hc, rfl⟩
    exact (kids_mem w ht this).2.1
  have k : itp V π (g.ht t.1) t = t :: stk V g π (kidI V π t) := by
    cases z : g.ht t.1 with
    | zero =>
      have : kidI V π t = [] := by
        cases y : kidI V π t with
        | nil => rfl
        | cons c l => have := ck c (by rw [y]; exact List.mem_cons_self ..); omega
      rw [this]; rfl
    | succ h =>
      show t :: (kidI V π t).flatMap (itp V π h) = _
      congr 1
      unfold stk
      refine fm_congr _ (fun c hc => ?_)
      have := ck c hc
      rw [show g.ht c.1 = h by omega]
  rw [k]; rfl
/-- the stack's rows, its top behind -/
def Sj (S : MS) (π : Nat → Nat) (st : List It) : Prop := ∀ (j : Nat) (t : It), st.reverse[j]? = some t → S.1 9 j = nI (π t.1) ∧ S.1 14 j = nI t.2.1 ∧ S.1 15 j = t.2.2.1 ∧ S.1 16 j = t.2.2.2
/-- the order's rows -/
def Oj (S : MS) (π : Nat → Nat) (out : List It) : Prop := ∀ (j : Nat) (t : It), out[j]? = some t → S.1 10 j = nI (π t.1) ∧ S.1 11 j = nI t.2.1 ∧ S.1 12 j = t.2.2.1 ∧ S.1 13 j = t.2.2.2
def w4 (S : MS) (a b c d i : Nat) (x y z u : Int32) : MS := (up2 (up2 (up2 (up2 S.1 a i x) b i y) c i z) d i u, S.2)
theorem w4_o {S : MS} {a b c d i j k : Nat} {x y z u : Int32} (h : k ≠ i ∨ (j ≠ a ∧ j ≠ b ∧ j ≠ c ∧ j ≠ d)) : (w4 S a b c d i x y z u).1 j k = S.1 j k := by
  show up2 _ d i u j k = _
  rw [up2_n (fun q => by omega), up2_n (fun q => by omega), up2_n (fun q => by omega), up2_n (fun q => by omega)]
theorem w4_v {S : MS} {a b c d i : Nat} {x y z u : Int32} (h : a ≠ b ∧ a ≠ c ∧ a ≠ d ∧ b ≠ c ∧ b ≠ d ∧ c ≠ d) : (w4 S a b c d i x y z u).1 a i = x ∧ (w4 S a b c d i x y z u).1 b i = y ∧ (w4 S a b c d i x y z u).1 c i = z ∧ (w4 S a b c d i x y z u).1 d i = u := by
  refine ⟨?_, ?_, ?_, ?_⟩
  · show up2 _ d i u a i = _
    rw [up2_j (by omega), up2_j (by omega), up2_j (by omega), up2_s]
  · show up2 _ d i u b i = _
    rw [up2_j (by omega), up2_j (by omega), up2_s]
  · show up2 _ d i u c i = _
    rw [up2_j (by omega), up2_s]
  · show up2 _ d i u d i = _
    rw [up2_s]
theorem w4_rk {S : MS} {a b c d i : Nat} {x y z u : Int32} (h : 9 ≤ a ∧ a ≤ 16 ∧ 9 ≤ b ∧ b ≤ 16 ∧ 9 ≤ c ∧ c ≤ 16 ∧ 9 ≤ d ∧ d ≤ 16) : Rk S (w4 S a b c d i x y z u) := ⟨fun j hj => funext fun k => w4_o (Or.inr (by omega)), fun _ _ => rfl⟩
theorem Sj.push {S : MS} {st : List It} (h : Sj S π st) (t : It) : Sj (w4 S 9 14 15 16 st.length (nI (π t.1)) (nI t.2.1) t.2.2.1 t.2.2.2) π (t :: st) := by
  intro j t' hj
  rw [List.reverse_cons] at hj
  by_cases z : j < st.length
  · rw [List.getElem?_append_left (by rw [List.length_reverse]; exact z)] at hj
    rw [w4_o (Or.inl (by omega)), w4_o (Or.inl (by omega)), w4_o (Or.inl (by omega)), w4_o (Or.inl (by omega))]
    exact h j t' hj
  · have zl : j = st.length := by
      have := (List.getElem?_eq_some_iff.mp hj).1
      rw [List.length_append, List.length_reverse] at this
      simp at this
      omega
    subst zl
    rw [List.getElem?_append_right (by rw [List.length_reverse]; exact Nat.le_refl _), List.length_reverse, Nat.sub_self] at hj
    have : t = t' := by simpa using hj
    subst this
    exact w4_v (by decide)
theorem Sj.out {S : MS} {st : List It} (h : Sj S π st) {i : Nat} {x y z u : Int32} : Sj (w4 S 10 11 12 13 i x y z u) π st := fun j t hj => by
  rw [w4_o (Or.inr (by decide)), w4_o (Or.inr (by decide)), w4_o (Or.inr (by decide)), w4_o (Or.inr (by decide))]
  exact h j t hj
theorem Oj.push {S : MS} {out : List It} (h : Oj S π out) {i : Nat} {x y z u : Int32} : Oj (w4 S 9 14 15 16 i x y z u) π out := fun j t hj => by
  rw [w4_o (Or.inr (by decide)), w4_o (Or.inr (by decide)), w4_o (Or.inr (by decide)), w4_o (Or.inr (by decide))]
  exact h j t hj
theorem Oj.out {S : MS} {out : List It} (h : Oj S π out) (t : It) : Oj (w4 S 10 11 12 13 out.length (nI (π t.1)) (nI t.2.1) t.2.2.1 t.2.2.2) π (out ++ [t]) := by
  intro j t' hj
  by_cases z : j < out.length
  · rw [List.getElem?_append_left z] at hj
    rw [w4_o (Or.inl (by omega)), w4_o (Or.inl (by omega)), w4_o (Or.inl (by omega)), w4_o (Or.inl (by omega))]
    exact h j t' hj
  · have zl : j = out.length := by
      have := (List.getElem?_eq_some_iff.mp hj).1
      rw [List.length_append] at this
      simp at this
      omega
    subst zl
    rw [List.getElem?_append_right (Nat.le_refl _), Nat.sub_self] at hj
    have : t = t' := by simpa using hj
    subst this
    exact w4_v (by decide)
theorem Sj.tl {S : MS} {st : List It} {t : It} (h : Sj S π (t :: st)) : Sj S π st := fun j t' hj => h j t' (by
  rw [List.reverse_cons, List.getElem?_append_left (List.getElem?_eq_some_iff.mp hj).1]; exact hj)
theorem Sj.top {S : MS} {st : List It} {t : It} (h : Sj S π (t :: st)) : S.1 9 st.length = nI (π t.1) ∧ S.1 14 st.length = nI t.2.1 ∧ S.1 15 st.length = t.2.2.1 ∧ S.1 16 st.length = t.2.2.2 := h _ t (by
  rw [List.reverse_cons, List.getElem?_append_right (by rw [List.length_reverse]; exact Nat.le_refl _), List.length_reverse, Nat.sub_self]; rfl)
end RORDER
