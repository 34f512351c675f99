section RBELOW
variable {V : Vt} {g : Gh} {π : Nat → Nat}
/-- things below, as the reference lays them -/
def rth (V : Vt) : Nat → Nat → List Nat
  | 0, p => ths V p
  | h + 1, p => (kids V p).reverse.flatMap (rth V h)
theorem pm_fm {α β : Type} {f h : α → List β} : ∀ (l : List α), (∀ c ∈ l, (f c).Perm (h c)) → (l.flatMap f).Perm (l.flatMap h)
  | [], _ => List.Perm.refl _
  | x :: l, q => by
    rw [List.flatMap_cons, List.flatMap_cons]
    exact (q x (List.mem_cons_self ..)).append (pm_fm l (fun c hc => q c (List.mem_cons_of_mem _ hc)))
theorem rth_perm (w : Wf V g V.U) : ∀ (h p : Nat), g.ht p = h → p < V.U → (rth V h p).Perm (tbl V g p)
  | 0, p, hh, hp => by
    rw [tbl_eq w hp, if_pos ((w.2.1 p hp).1.1.mpr hh)]
    unfold rth ths
    rw [if_pos ((w.2.1 p hp).1.1.mpr hh)]
  | h + 1, p, hh, hp => by
    rw [tbl_eq w hp, if_neg (fun y => by have := (w.2.1 p hp).1.1.mp y; omega)]
    unfold rth
    refine ((List.reverse_perm _).flatMap_right _).trans (pm_fm _ (fun c hc => ?_))
    obtain ⟨c1, c2, -⟩ := kids_mem w hp hc
    exact rth_perm w h c (by omega) c1
theorem tbl_th (w : Wf V g V.U) {p t : Nat} (hp : p < V.U) (ht : t ∈ tbl V g p) : hs V t := by
  obtain ⟨q, hq, ht⟩ := List.mem_flatMap.mp ht
  have q1 := (pre_mem w _ _ rfl hp q hq).1
  unfold ths at ht
  by_cases z : (V.P q).lf = true
  · rw [if_pos z] at ht
    obtain ⟨e, he, rfl⟩ := List.mem_map.mp ht
    exact ((w.2.1 q q1).2.1 e he).1
  · rw [if_neg z] at ht; cases ht
theorem tbl_nd (w : Wf V g V.U) {p : Nat} (hp : p < V.U) : (tbl V g p).Nodup := by
  unfold tbl List.Nodup
  rw [List.pairwise_flatMap]
  refine ⟨fun q hq => ?_, ?_⟩
  · have q1 := (pre_mem w _ _ rfl hp q hq).1
    unfold ths
    by_cases z : (V.P q).lf = true
    · rw [if_pos z]; exact (w.2.1 q q1).2.2.1.2 z
    · rw [if_neg z]; exact List.Pairwise.nil
  · refine List.Pairwise.imp_of_mem (fun {a b} ha hb hab x hx y hy => ?_) (pre_nd w _ _ rfl hp)
    have a1 := (pre_mem w _ _ rfl hp a ha).1
    have b1 := (pre_mem w _ _ rfl hp b hb).1
    unfold ths at hx hy
    by_cases za : (V.P a).lf = true
    · by_cases zb : (V.P b).lf = true
      · rw [if_pos za] at hx
        rw [if_pos zb] at hy
        obtain ⟨e, he, rfl⟩ := List.mem_map.mp hx
        obtain ⟨f, hf, rfl⟩ := List.mem_map.mp hy
        intro ee
        have u1 := ((w.2.1 a a1).2.1 e he).2.2.2 za
        have u2 := ((w.2.1 b b1).2.1 f hf).2.2.2 zb
        rw [ee, u2] at u1
        cases u1
        exact hab rfl
      · rw [if_neg zb] at hy; cases hy
    · rw [if_neg za] at hx; cases hx
theorem tbn_le (w : Wf V g V.U) {p : Nat} (hp : p < V.U) : tbn V g p ≤ 40 := nd_len 40 _ (tbl_nd w hp) (fun q hq => (tbl_th w hp hq).1)
def stT (V : Vt) (g : Gh) (st : List Nat) : List Nat := st.flatMap (fun p => rth V (g.ht p) p)
/-- the stack's row, its top behind, and the things' row -/
def Sb (S : MS) (π : Nat → Nat) (st : List Nat) : Prop := ∀ j q : Nat, st.reverse[j]? = some q → S.1 9 j = nI (π q)
def Ob (S : MS) (T : List Nat) : Prop := ∀ j t : Nat, T[j]? = some t → S.1 8 j = nI t
/-- rows 8 and 9 alone -/
def R89 (S S' : MS) : Prop := (∀ j, j ≠ 8 → j ≠ 9 → S'.1 j = S.1 j) ∧ S'.2 = S.2
theorem R89.rfl {S : MS} : R89 S S := ⟨fun _ _ _ => Eq.refl _, Eq.refl _⟩
theorem R89.tr {S S1 S2 : MS} (h : R89 S S1) (k : R89 S1 S2) : R89 S S2 := ⟨fun j a b => (k.1 j a b).trans (h.1 j a b), k.2.trans h.2⟩
theorem R89.wr {S : MS} {j i : Nat} {v : Int32} (h : j = 8 ∨ j = 9) : R89 S (up2 S.1 j i v, S.2) := ⟨fun a a1 a2 => up2_r (by omega), Eq.refl _⟩
theorem R89.rk {S S' : MS} (h : R89 S S') : Rk S S' := ⟨fun j hj => h.1 j (by omega) (by omega), fun k _ => by rw [h.2]⟩
theorem R89.r0 {S S' : MS} (h : R89 S S') : S'.1 0 = S.1 0 := h.1 0 (by decide) (by decide)
theorem Sb.push {S : MS} {st : List Nat} (h : Sb S π st) (q : Nat) : Sb (up2 S.1 9 st.length (nI (π q)), S.2) π (q :: st) := by
  intro j q' hj
  rw [List.reverse_cons] at hj
  by_cases z : j < st.length
  · rw [List.getElem?_append_left (by rw [List.length_reverse]; exact z)] at hj
    show up2 S.1 9 st.length (nI (π q)) 9 j = _
    rw [up2_n (fun y => by omega)]
    exact h j q' hj
  · have zl : j = st.length := by
      have := (List.getElem?_eq_some_iff.mp hj).1
      rw [List.length_append, List.length_reverse] at this
      simp at this
      omega
    subst zl
    rw [List.getElem?_append_right (by rw [List.length_reverse]; exact Nat.le_refl _), List.length_reverse, Nat.sub_self] at hj
    have : q = q' := by simpa using hj
    subst this
    exact up2_s
theorem Ob.push {S : MS} {T : List Nat} (h : Ob S T) (t : Nat) : Ob (up2 S.1 8 T.length (nI t), S.2) (T ++ [t]) := by
  intro j t' hj
  by_cases z : j < T.length
  · rw [List.getElem?_append_left z] at hj
    show up2 S.1 8 T.length (nI t) 8 j = _
    rw [up2_n (fun y => by omega)]
    exact h j t' hj
  · have zl : j = T.length := by
      have := (List.getElem?_eq_some_iff.mp hj).1
      rw [List.length_append] at this
      simp at this
      omega
    subst zl
    rw [List.getElem?_append_right (Nat.le_refl _), Nat.sub_self] at hj
    have : t = t' := by simpa using hj
    subst this
    exact up2_s
theorem r_lb29i {k11 : Int32 → Int32 → MS → Option (Int32 × MS)} {x2 : Int32} {p : Nat} {rest T : List Nat} (hp : p < V.U) (hU : V.U ≤ 784) (hl : (V.P p).lf = false) (hb : rest.length + (kids V p).length ≤ 784) : ∀ (m F k : Nat) (S : MS), m < F → k + m = (V.P p).es.length → RT (S.1 0) V π → Sb S π (((kids V p).take k).reverse ++ rest) → Ob S T → ∃ S', r_layBelow_29 k11 F x2 (nI (((kids V p).take k).reverse ++ rest).length) (nI (π p)) (nI k) S = k11 x2 (nI ((kids V p).reverse ++ rest).length) S' ∧ Sb S' π ((kids V p).reverse ++ rest) ∧ Ob S' T ∧ R89 S S'
  | m, 0, _, _, h, _, _, _, _ => absurd h (Nat.not_lt_zero m)
  | 0, F + 1, k, S, _, hk, rt, sb, ob => by
    obtain ⟨p1, rp⟩ := rt.2.2.1 p hp
    have l7 := rp.2.2
    rw [List.length_map] at l7
    have kl : (kids V p).length = (V.P p).es.length := by unfold kids; rw [if_neg (by rw [hl]; decide), List.length_map]
    rw [List.take_of_length_le (by omega)] at sb ⊢
    rw [r_layBelow_29.eq_2, rp.n (by omega), bind_s, List.length_map, if_pos (nI_le (by omega) (by omega))]
    exact ⟨S, rfl, sb, ob, R89.rfl⟩
  | m + 1, F + 1, k, S, hF, hk, rt, sb, ob => by
    obtain ⟨p1, rp⟩ := rt.2.2.1 p hp
    have l7 := rp.2.2
    rw [List.length_map] at l7
    have kl : (kids V p).length = (V.P p).es.length := by unfold kids; rw [if_neg (by rw [hl]; decide), List.length_map]
    obtain ⟨e, he⟩ : ∃ e, (V.P p).es[k]? = some e := ⟨_, List.getElem?_eq_getElem (by omega)⟩
    have hkk : (kids V p)[k]? = some e.2.2 := by unfold kids; rw [if_neg (by rw [hl]; decide), List.getElem?_map, he]; rfl
    have e3 : r_entryOf S (nI (π p)) (nI k) 3 = some (nI (π e.2.2)) := by
      rw [rp.e3 (by omega) (e := reE V π (V.P p) e) (by rw [List.getElem?_map, he]; rfl)]
      unfold reE
      rw [if_neg (by rw [hl]; decide)]
    have tk : ((kids V p).take (k + 1)).reverse ++ rest = e.2.2 :: (((kids V p).take k).reverse ++ rest) := by
      rw [List.take_succ, hkk]
      show ((kids V p).take k ++ [e.2.2]).reverse ++ rest = _
      rw [List.reverse_append]; rfl
    have ln : (((kids V p).take k).reverse ++ rest).length = k + rest.length := by
      rw [List.length_append, List.length_reverse, List.length_take]; omega
    have sb2 := sb.push e.2.2
    generalize hS2 : ((up2 S.1 9 (((kids V p).take k).reverse ++ rest).length (nI (π e.2.2)), S.2) : MS) = S2 at sb2
    have r2 : R89 S S2 := by rw [← hS2]; exact R89.wr (Or.inr rfl)
    have ob2 : Ob S2 T := fun j t hj => by
      rw [← hS2]
      show up2 S.1 9 (((kids V p).take k).reverse ++ rest).length (nI (π e.2.2)) 8 j = nI t
      rw [up2_j (by decide)]
      exact ob j t hj
    obtain ⟨S', g1, g2, g3, g4⟩ := r_lb29i (k11 := k11) (x2 := x2) (T := T) hp hU hl hb m F (k + 1) S2 (by omega) (by omega) (by rw [r2.r0]; exact rt) (by rw [tk]; exact sb2) ob2
    refine ⟨S', ?_, g2, g3, r2.tr g4⟩
    rw [tk, List.length_cons] at g1
    rw [r_layBelow_29.eq_2, rp.n (by omega), bind_s, List.length_map, if_neg (nI_ge (by omega) (by omega)), rp.l (by omega), bind_s, bI_0', if_pos (by rw [hl]; decide), e3, bind_s, wr_ok (by rw [len9s.1, ln]; omega) (by omega), bind_s, hS2, nI_1]
    unfold r_layBelow_88
    rw [nI_1]
    exact g1
theorem len8 : m_len 8 = 40 := rfl
theorem r_lb29l {k11 : Int32 → Int32 → MS → Option (Int32 × MS)} {x3 : Int32} {p : Nat} {T st : List Nat} (hp : p < V.U) (hU : V.U ≤ 784) (hl : (V.P p).lf = true) (hb : T.length + (V.P p).es.length ≤ 40) : ∀ (m F k : Nat) (S : MS), m < F → k + m = (V.P p).es.length → RT (S.1 0) V π → Sb S π st → Ob S (T ++ ((ths V p).take k)) → ∃ S', r_layBelow_29 k11 F (nI (T ++ ((ths V p).take k)).length) x3 (nI (π p)) (nI k) S = k11 (nI (T ++ ths V p).length) x3 S' ∧ Sb S' π st ∧ Ob S' (T ++ ths V p) ∧ R89 S S'
  | m, 0, _, _, h, _, _, _, _ => absurd h (Nat.not_lt_zero m)
  | 0, F + 1, k, S, _, hk, rt, sb, ob => by
    obtain ⟨p1, rp⟩ := rt.2.2.1 p hp
    have l7 := rp.2.2
    rw [List.length_map] at l7
    have kl : (ths V p).length = (V.P p).es.length := by unfold ths; rw [if_pos hl, List.length_map]
    rw [List.take_of_length_le (by omega)] at ob ⊢
    rw [r_layBelow_29.eq_2, rp.n (by omega), bind_s, List.length_map, if_pos (nI_le (by omega) (by omega))]
    exact ⟨S, rfl, sb, ob, R89.rfl⟩
  | m + 1, F + 1, k, S, hF, hk, rt, sb, ob => by
    obtain ⟨p1, rp⟩ := rt.2.2.1 p hp
    have l7 := rp.2.2
    rw [List.length_map] at l7
    have kl : (ths V p).length = (V.P p).es.length := by unfold ths; rw [if_pos hl, List.length_map]
    obtain ⟨e, he⟩ : ∃ e, (V.P p).es[k]? = some e := ⟨_, List.getElem?_eq_getElem (by omega)⟩
    have hkk : (ths V p)[k]? = some e.1 := by unfold ths; rw [if_pos hl, List.getElem?_map, he]; rfl
    have e0 : r_entryOf S (nI (π p)) (nI k) 0 = some (nI e.1) := rp.e0 (by omega) (e := reE V π (V.P p) e) (by rw [List.getElem?_map, he]; rfl)
    have tk : T ++ ((ths V p).take (k + 1)) = (T ++ ((ths V p).take k)) ++ [e.1] := by
      rw [List.take_succ, hkk, List.append_assoc]; rfl
    have ln : (T ++ ((ths V p).take k)).length = T.length + k := by
      rw [List.length_append, List.length_take]; omega
    have ob2 := ob.push e.1
    generalize hS2 : ((up2 S.1 8 (T ++ ((ths V p).take k)).length (nI e.1), S.2) : MS) = S2 at ob2
    have r2 : R89 S S2 := by rw [← hS2]; exact R89.wr (Or.inl rfl)
    have sb2 : Sb S2 π st := fun j t hj => by
      rw [← hS2]
      show up2 S.1 8 (T ++ ((ths V p).take k)).length (nI e.1) 9 j = nI (π t)
      rw [up2_j (by decide)]
      exact sb j t hj
    obtain ⟨S', g1, g2, g3, g4⟩ := r_lb29l (k11 := k11) (x3 := x3) (T := T) hp hU hl hb m F (k + 1) S2 (by omega) (by omega) (by rw [r2.r0]; exact rt) sb2 (by rw [tk]; exact ob2)
    refine ⟨S', ?_, g2, g3, r2.tr g4⟩
    rw [tk, List.length_append] at g1
    rw [r_layBelow_29.eq_2, rp.n (by omega), bind_s, List.length_map, if_neg (nI_ge (by omega) (by omega)), rp.l (by omega), bind_s, bI_0', if_neg (by rw [hl]; decide), e0, bind_s, wr_ok (by rw [len8, ln]; omega) (by omega), bind_s, hS2, nI_1]
    unfold r_layBelow_88
    rw [nI_1]
    exact g1
theorem r_lb11 (w : Wf V g V.U) (hv : Vw V) : ∀ (m F : Nat) (st T : List Nat) (S : MS), m < F → (st.map (spn V g)).sum = m → m ≤ 780 → (∀ q ∈ st, q < V.U) → T.length + (stT V g st).length ≤ 40 → RT (S.1 0) V π → Sb S π st → Ob S T → ∃ S', r_layBelow_11 F (nI T.length) (nI st.length) S = some (nI (T.length + (stT V g st).length), S') ∧ Ob S' (T ++ stT V g st) ∧ R89 S S'
  | m, 0, _, _, _, h, _, _, _, _, _, _, _ => absurd h (Nat.not_lt_zero m)
  | m, F + 1, [], T, S, _, hm, _, _, _, _, _, ob => by
    rw [r_layBelow_11.eq_2, if_pos (show nI ([] : List Nat).length ≤ 0 by decide)]
    exact ⟨S, rfl, by rw [show stT V g [] = [] from rfl, List.append_nil]; exact ob, R89.rfl⟩
  | m, F + 1, p :: rest, T, S, hF, hm, h780, hst, hb, rt, sb, ob => by
    have hp : p < V.U := hst p (List.mem_cons_self ..)
    have u := w.u
    have hm1 : spn V g p + (rest.map (spn V g)).sum = m := by rw [← hm, List.map_cons, List.sum_cons]
    rw [spn_eq w hp] at hm1
    have sp1 : ∀ l : List Nat, (∀ q ∈ l, q < V.U) → l.length ≤ (l.map (spn V g)).sum := fun l => by
      induction l with
      | nil => intro _; exact Nat.le_refl _
      | cons x l ih =>
        intro h
        have := ih (fun q hq => h q (List.mem_cons_of_mem _ hq))
        have := spn_eq w (h x (List.mem_cons_self ..))
        rw [List.map_cons, List.sum_cons, List.length_cons]
        omega
    have rl := sp1 rest (fun q hq => hst q (List.mem_cons_of_mem _ hq))
    have top : S.1 9 rest.length = nI (π p) := sb _ p (by
      rw [List.reverse_cons, List.getElem?_append_right (by rw [List.length_reverse]; exact Nat.le_refl _), List.length_reverse, Nat.sub_self]; rfl)
    have sbt : Sb S π rest := fun j q hj => sb j q (by
      rw [List.reverse_cons, List.getElem?_append_left (List.getElem?_eq_some_iff.mp hj).1]; exact hj)
    have eT : stT V g (p :: rest) = rth V (g.ht p) p ++ stT V g rest := rfl
    rw [eT, List.length_append] at hb
    rw [eT]
    have hd : ∀ Y, r_layBelow_11 (F + 1) (nI T.length) (nI (p :: rest).length) S = Y ↔ r_layBelow_29 (r_layBelow_11 F) FU (nI T.length) (nI rest.length) (nI (π p)) 0 S = Y := fun Y => by
      rw [List.length_cons, r_layBelow_11.eq_2, if_neg (show ¬ nI (rest.length + 1) ≤ 0 from nI_ge (show 0 < rest.length + 1 by omega) (by omega)), nI_dec (by omega), show rest.length + 1 - 1 = rest.length by omega, rd_ok (by rw [len9s.1]; omega) (by omega), bind_s, top]
    have hh := (w.2.1 p hp).1.1
    have kls := kids_len w hv hp
    cases hl : (V.P p).lf with
    | false =>
      have kU : ∀ q ∈ (kids V p).reverse ++ rest, q < V.U := fun q hq => by
        rcases List.mem_append.mp hq with h | h
        · exact (kids_mem w hp (List.mem_reverse.mp h)).1
        · exact hst q (List.mem_cons_of_mem _ h)
      have msr : (((kids V p).reverse ++ rest).map (spn V g)).sum = ((kids V p).map (spn V g)).sum + (rest.map (spn V g)).sum := by
        rw [List.map_append, List.sum_append, List.map_reverse, List.sum_reverse]
      have ll := sp1 _ kU
      rw [msr, List.length_append, List.length_reverse] at ll
      obtain ⟨S1, g1, g2, g3, g4⟩ := r_lb29i (k11 := r_layBelow_11 F) (x2 := nI T.length) (T := T) (rest := rest) hp (by omega) hl (by omega) (V.P p).es.length FU 0 S (FU_gt (by have := (rt.2.2.1 p hp).2.2.2; rw [List.length_map] at this; omega)) (by omega) rt (by rw [List.take_zero]; exact sbt) ob
      have ht : ∃ h, g.ht p = h + 1 := ⟨g.ht p - 1, by
        have : g.ht p ≠ 0 := fun z => by rw [hh.mpr z] at hl; cases hl
        omega⟩
      obtain ⟨h, ht⟩ := ht
      have eR : rth V (g.ht p) p ++ stT V g rest = stT V g ((kids V p).reverse ++ rest) := by
        rw [ht]
        show (kids V p).reverse.flatMap (rth V h) ++ stT V g rest = _
        unfold stT
        rw [List.flatMap_append]
        congr 1
        refine fm_congr _ (fun c hc => ?_)
        have := (kids_mem w hp (List.mem_reverse.mp hc)).2.1
        rw [show g.ht c = h by omega]
      have hb2 : T.length + (stT V g ((kids V p).reverse ++ rest)).length ≤ 40 := by rw [← eR, List.length_append]; omega
      obtain ⟨S2, k1, k2, k3⟩ := r_lb11 w hv (m - 1) F ((kids V p).reverse ++ rest) T S1 (by omega) (by rw [msr]; omega) (by omega) kU hb2 (by rw [g4.r0]; exact rt) g2 g3
      rw [eR]
      refine ⟨S2, ?_, k2, g4.tr k3⟩
      rw [hd]
      rw [List.take_zero] at g1
      have g1 : r_layBelow_29 (r_layBelow_11 F) FU (nI T.length) (nI rest.length) (nI (π p)) 0 S = _ := g1
      rw [g1, k1]
    | true =>
      have h0 := hh.mp hl
      have kn : kids V p = [] := by unfold kids; rw [if_pos hl]
      rw [kn] at hm1
      have eR : rth V (g.ht p) p = ths V p := by rw [h0]; rfl
      have tl : (ths V p).length = (V.P p).es.length := by unfold ths; rw [if_pos hl, List.length_map]
      rw [eR] at hb ⊢
      obtain ⟨S1, g1, g2, g3, g4⟩ := r_lb29l (k11 := r_layBelow_11 F) (x3 := nI rest.length) (T := T) (st := rest) hp (by omega) hl (by omega) (V.P p).es.length FU 0 S (FU_gt (by omega)) (by omega) rt sbt (by rw [List.take_zero, List.append_nil]; exact ob)
      obtain ⟨S2, k1, k2, k3⟩ := r_lb11 w hv (m - 1) F rest (T ++ ths V p) S1 (by omega) (by simp at hm1; omega) (by omega) (fun q hq => hst q (List.mem_cons_of_mem _ hq)) (by rw [List.length_append]; omega) (by rw [g4.r0]; exact rt) g2 g3
      refine ⟨S2, ?_, by rw [← List.append_assoc]; exact k2, g4.tr k3⟩
      rw [hd]
      rw [List.take_zero, List.append_nil] at g1
      have g1 : r_layBelow_29 (r_layBelow_11 F) FU (nI T.length) (nI rest.length) (nI (π p)) 0 S = _ := g1
      rw [g1, k1, List.length_append, List.length_append, Nat.add_assoc]
theorem pre_len (w : Wf V g V.U) {p : Nat} (hp : p < V.U) : spn V g p ≤ V.U := nd_len V.U _ (pre_nd w _ _ rfl hp) (fun q hq => (pre_mem w _ _ rfl hp q hq).1)
/-- the reference lays the things below a page -/
theorem r_layBelow_eq {S : MS} (rt : RT (S.1 0) V π) (hv : Vw V) (w : Wf V g V.U) {p : Nat} (hp : p < V.U) : ∃ S', r_layBelow S (nI (π p)) = some (nI (tbn V g p), S') ∧ Ob S' (rth V (g.ht p) p) ∧ (rth V (g.ht p) p).length = tbn V g p ∧ R89 S S' := by
  have u := w.u
  have e := (rth_perm w _ p rfl hp).length_eq
  have e : (rth V (g.ht p) p).length = tbn V g p := e
  have t40 := tbn_le w hp
  have sb : Sb S π [] := fun j t h => by cases j <;> cases h
  have sb2 := sb.push p
  have r1 : R89 S (up2 S.1 9 0 (nI (π p)), S.2) := R89.wr (Or.inr rfl)
  have eT : stT V g [p] = rth V (g.ht p) p := List.append_nil _
  have sl := pre_len w hp
  obtain ⟨S', g1, g2, g3⟩ := r_lb11 w hv (spn V g p) FU [p] [] (up2 S.1 9 0 (nI (π p)), S.2) (FU_gt (by omega)) (by simp) (by omega) (fun q hq => by rw [List.mem_singleton.mp hq]; exact hp) (by rw [eT, e]; simpa using t40) (by rw [r1.r0]; exact rt) sb2 (fun j t h => by cases h)
  rw [eT] at g1 g2
  refine ⟨S', ?_, g2, e, r1.tr g3⟩
  unfold r_layBelow
  rw [show (0 : Int32) = nI 0 from rfl, wr_ok (by rw [len9s.1]; omega) (by omega), bind_s]
  have g1 : r_layBelow_11 FU 0 1 (up2 S.1 9 0 (nI (π p)), S.2) = some (nI (0 + (rth V (g.ht p) p).length), S') := g1
  rw [Nat.zero_add, e] at g1
  exact g1
end RBELOW
