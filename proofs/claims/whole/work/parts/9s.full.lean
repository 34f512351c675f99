section FULL
variable {V : Vt} {g : Gh} {π : Nat → Nat}
theorem stk_sub (st : List It) : st.Sublist (stk V g π st) := by
  induction st with
  | nil => exact List.Sublist.refl _
  | cons t st ih =>
    obtain ⟨l, hl⟩ : ∃ l, itp V π (g.ht t.1) t = t :: l := by
      cases g.ht t.1 with
      | zero => exact ⟨[], rfl⟩
      | succ h => exact ⟨_, rfl⟩
    show (t :: st).Sublist (itp V π (g.ht t.1) t ++ stk V g π st)
    rw [hl]
    show (t :: st).Sublist (t :: (l ++ stk V g π st))
    exact List.cons_sublist_cons.mpr (ih.trans (List.sublist_append_right _ _))
/-- all pages in their order, with depth and the entry above -/
def fl (V : Vt) (g : Gh) (π : Nat → Nat) : List It := itp V π (g.ht V.R) (V.R, 0, -1, -1)
theorem fl_ord : (fl V g π).map (fun x => x.1) = ord V g := itp_pre _ _
theorem fl_len : (fl V g π).length = (ord V g).length := by
  have := congrArg List.length (fl_ord (V := V) (g := g) (π := π))
  rw [List.length_map] at this
  exact this
theorem fl_stk : fl V g π = stk V g π [(V.R, 0, -1, -1)] := (List.append_nil _).symm
theorem fl_nd (w : Wf V g V.U) : ((fl V g π).map (fun x => x.1)).Nodup := by rw [fl_ord]; exact ord_nd w
theorem kidI_lt (w : Wf V g V.U) {t x : It} (ht : t.1 < V.U) (hx : x ∈ kidI V π t) : x.1 < V.U ∧ x.1 ∈ kids V t.1 := by
  have : x.1 ∈ kids V t.1 := by rw [← kidI_kids (π := π)]; exact List.mem_map.mpr ⟨x, hx, rfl⟩
  exact ⟨(kids_mem w ht this).1, this⟩
theorem fl_split (w : Wf V g V.U) : ∀ (m : Nat), m < (fl V g π).length → ∃ (D : List It) (t : It) (rest : List It), fl V g π = D ++ stk V g π (t :: rest) ∧ D.length = m ∧ (fl V g π)[m]? = some t ∧ ∀ x ∈ t :: rest, x.1 < V.U
  | 0, _ => by
    refine ⟨[], (V.R, 0, -1, -1), [], fl_stk, rfl, ?_, fun x hx => ?_⟩
    · rw [fl_stk, stk_step w w.1.1]; rfl
    · rw [List.mem_singleton.mp hx]; exact w.1.1
  | m + 1, h => by
    obtain ⟨D, t, rest, e1, e2, e3, e4⟩ := fl_split w m (by omega)
    have tU := e4 t (List.mem_cons_self ..)
    rw [stk_step w tU] at e1
    cases q : kidI V π t ++ rest with
    | nil =>
      have := congrArg List.length e1
      rw [q, List.length_append, List.length_cons, show stk V g π [] = [] from rfl] at this
      simp at this
      omega
    | cons t' rest' =>
      have all : ∀ x ∈ t' :: rest', x.1 < V.U := fun x hx => by
        rw [← q] at hx
        rcases List.mem_append.mp hx with h | h
        · exact (kidI_lt w tU h).1
        · exact e4 x (List.mem_cons_of_mem _ h)
      have e5 : fl V g π = (D ++ [t]) ++ stk V g π (t' :: rest') := by rw [e1, q, List.append_assoc]; rfl
      refine ⟨D ++ [t], t', rest', e5, by rw [List.length_append, e2]; rfl, ?_, all⟩
      rw [e5, stk_step w (all t' (List.mem_cons_self ..)), List.getElem?_append_right (by rw [List.length_append, e2]; exact Nat.le_refl _), List.length_append, e2]
      show (_ :: _)[m + 1 - (m + 1)]? = _
      rw [Nat.sub_self]; rfl
/-- where an item hangs -/
def Itv (V : Vt) (π : Nat → Nat) (t : It) : Prop := t = (V.R, 0, -1, -1) ∨ ∃ p k e, p < V.U ∧ (V.P p).lf = false ∧ (V.P p).es[k]? = some e ∧ e.2.2 = t.1 ∧ t.2.2.1 = nI (π p) ∧ t.2.2.2 = nI k
theorem kidI_itv {t x : It} (ht : t.1 < V.U) (hx : x ∈ kidI V π t) : Itv V π x := by
  unfold kidI at hx
  by_cases z : (V.P t.1).lf = true
  · rw [if_pos z] at hx; cases hx
  · rw [if_neg z] at hx
    obtain ⟨k, hk⟩ := List.mem_iff_getElem?.mp hx
    rw [List.getElem?_mapIdx] at hk
    cases q : (V.P t.1).es[k]? with
    | none => rw [q] at hk; cases hk
    | some e =>
      rw [q] at hk
      have hk : some ((e.2.2, t.2.1 + 1, nI (π t.1), nI k) : It) = some x := hk
      cases hk
      exact Or.inr ⟨t.1, k, e, ht, by simpa using z, q, rfl, rfl, rfl⟩
theorem itp_itv (w : Wf V g V.U) : ∀ (h : Nat) (t : It), t.1 < V.U → Itv V π t → ∀ x ∈ itp V π h t, x.1 < V.U ∧ Itv V π x
  | 0, t, ht, hi, x, hx => by
    have : x = t := by simpa [itp] using hx
    rw [this]; exact ⟨ht, hi⟩
  | h + 1, t, ht, hi, x, hx => by
    rcases List.mem_cons.mp hx with rfl | hx
    · exact ⟨ht, hi⟩
    · obtain ⟨c, hc, hx⟩ := List.mem_flatMap.mp hx
      exact itp_itv w h c (kidI_lt w ht hc).1 (kidI_itv ht hc) x hx
theorem fl_itv (w : Wf V g V.U) : ∀ x ∈ fl V g π, x.1 < V.U ∧ Itv V π x := itp_itv w _ _ w.1.1 (Or.inl rfl)
/-- things in the leaves from a page down -/
def ths (V : Vt) (q : Nat) : List Nat := if (V.P q).lf = true then (V.P q).es.map (fun e => e.1) else []
def tbl (V : Vt) (g : Gh) (p : Nat) : List Nat := (pre V (g.ht p) p).flatMap (ths V)
def tbn (V : Vt) (g : Gh) (p : Nat) : Nat := (tbl V g p).length
theorem fm_fm {α β γ : Type} {f : α → List β} {h : β → List γ} : ∀ (l : List α), (l.flatMap f).flatMap h = l.flatMap (fun a => (f a).flatMap h)
  | [] => rfl
  | x :: l => by rw [List.flatMap_cons, List.flatMap_append, fm_fm l, List.flatMap_cons]
theorem tbl_eq (w : Wf V g V.U) {p : Nat} (hp : p < V.U) : tbl V g p = if (V.P p).lf = true then (V.P p).es.map (fun e => e.1) else (kids V p).flatMap (tbl V g) := by
  unfold tbl
  have hh := (w.2.1 p hp).1.1
  cases z : g.ht p with
  | zero =>
    rw [if_pos (hh.mpr z)]
    show ths V p ++ [] = _
    rw [List.append_nil]
    unfold ths
    rw [if_pos (hh.mpr z)]
  | succ h =>
    have nl : ¬ (V.P p).lf = true := fun y => by have := hh.mp y; omega
    rw [if_neg nl]
    show ths V p ++ ((kids V p).flatMap (pre V h)).flatMap (ths V) = _
    rw [show ths V p = [] from if_neg nl, List.nil_append, fm_fm]
    refine fm_congr _ (fun c hc => ?_)
    have := (kids_mem w hp hc).2.1
    rw [show g.ht c = h by omega]
theorem tbn_eq (w : Wf V g V.U) {p : Nat} (hp : p < V.U) : tbn V g p = if (V.P p).lf = true then (V.P p).es.length else ((kids V p).map (tbn V g)).sum := by
  unfold tbn
  rw [tbl_eq w hp]
  by_cases z : (V.P p).lf = true
  · rw [if_pos z, if_pos z, List.length_map]
  · rw [if_neg z, if_neg z, List.length_flatMap]
theorem pre_hd (h p : Nat) : p ∈ pre V h p := by
  cases h with
  | zero => exact List.mem_singleton.mpr rfl
  | succ h => exact List.mem_cons_self ..
theorem pre_kid (w : Wf V g V.U) : ∀ (h p : Nat), g.ht p = h → p < V.U → ∀ q c, q ∈ pre V h p → c ∈ kids V q → c ∈ pre V h p
  | 0, p, hh, hp, q, c, hq, hc => by
    have : q = p := by simpa [pre] using hq
    subst this
    have := (kids_mem w hp hc).2.1
    omega
  | h + 1, p, hh, hp, q, c, hq, hc => by
    rcases List.mem_cons.mp hq with rfl | hq
    · exact List.mem_cons_of_mem _ (List.mem_flatMap.mpr ⟨c, hc, pre_hd h c⟩)
    · obtain ⟨k, hk, hq⟩ := List.mem_flatMap.mp hq
      obtain ⟨k1, k2, -⟩ := kids_mem w hp hk
      exact List.mem_cons_of_mem _ (List.mem_flatMap.mpr ⟨k, hk, pre_kid w h k (by omega) k1 q c hq hc⟩)
theorem ord_mem (w : Wf V g V.U) : ∀ (n p : Nat), p < V.U → g.ht V.R - g.ht p = n → p ∈ ord V g := by
  intro n
  induction n with
  | zero =>
    intro p hp hn
    by_cases z : p = V.R
    · rw [z]; exact pre_hd _ _
    · obtain ⟨a1, a2, e, he, a3⟩ := (w.2.1 p hp).2.2.2.2 z
      have b := ((w.2.1 _ a1).2.1 e he).2.2.1 a2
      have c := (w.2.1 _ a1).1.2.2.2.2
      rw [a3] at b
      have := b.2.1
      have := (w.2.1 p hp).1.2.2.2.2
      omega
  | succ n ih =>
    intro p hp hn
    by_cases z : p = V.R
    · rw [z]; exact pre_hd _ _
    · obtain ⟨a1, a2, e, he, a3⟩ := (w.2.1 p hp).2.2.2.2 z
      have b := ((w.2.1 _ a1).2.1 e he).2.2.1 a2
      rw [a3] at b
      have := b.2.1
      have m := ih (g.pa p) a1 (by omega)
      refine pre_kid w _ _ rfl w.1.1 _ p m ?_
      unfold kids
      rw [if_neg (by rw [a2]; decide)]
      exact List.mem_map.mpr ⟨e, he, a3⟩
theorem nd_sub : ∀ (l m : List Nat), l.Nodup → (∀ x ∈ l, x ∈ m) → l.length ≤ m.length
  | [], m, _, _ => Nat.zero_le _
  | x :: l, m, nd, h => by
    have xm := h x (List.mem_cons_self ..)
    obtain ⟨n1, n2⟩ := List.nodup_cons.mp nd
    have := nd_sub l (m.erase x) n2 (fun y hy => (List.mem_erase_of_ne (fun (e : y = x) => n1 (e ▸ hy))).mpr (h y (List.mem_cons_of_mem _ hy)))
    rw [List.length_erase_of_mem xm] at this
    have := List.length_pos_of_mem xm
    rw [List.length_cons]
    omega
theorem ord_full (w : Wf V g V.U) : (ord V g).length = V.U := by
  have a := ord_len w
  have b := nd_sub (List.range V.U) (ord V g) List.nodup_range (fun x hx => ord_mem w _ x (List.mem_range.mp hx) rfl)
  rw [List.length_range] at b
  omega
end FULL
