section RORDER2
variable {V : Vt} {g : Gh} {π : Nat → Nat}
theorem len9s : m_len 9 = 784 ∧ m_len 10 = 784 ∧ m_len 11 = 784 ∧ m_len 12 = 784 ∧ m_len 13 = 784 ∧ m_len 14 = 784 ∧ m_len 15 = 784 ∧ m_len 16 = 784 := ⟨rfl, rfl, rfl, rfl, rfl, rfl, rfl, rfl⟩
theorem Rk.r0 {S S' : MS} (h : Rk S S') : S'.1 0 = S.1 0 := h.1 0 (Or.inl (Eq.refl 0))
theorem kidI_len {t : It} (hl : (V.P t.1).lf = false) : (kidI V π t).length = (V.P t.1).es.length := by
  unfold kidI
  rw [if_neg (by rw [hl]; decide), List.length_mapIdx]
theorem r_lo110 {k37 : Int32 → Int32 → MS → Option (Int32 × MS)} {x1 : Int32} {t : It} {rest : List It} (hp : t.1 < V.U) (hU : V.U ≤ 784) (hl : (V.P t.1).lf = false) (hb : rest.length + (V.P t.1).es.length ≤ 784) : ∀ (m F : Nat) (S : MS), m < F → m ≤ (V.P t.1).es.length → RT (S.1 0) V π → Sj S π ((kidI V π t).drop m ++ rest) → ∃ S', r_layOrder_110 k37 F x1 (nI ((kidI V π t).drop m ++ rest).length) (nI (π t.1)) (nI t.2.1) (nI m - 1) S = k37 x1 (nI (kidI V π t ++ rest).length) S' ∧ Sj S' π (kidI V π t ++ rest) ∧ Rk S S' ∧ (∀ out, Oj S π out → Oj S' π out)
  | m, 0, _, h, _, _, _ => absurd h (Nat.not_lt_zero m)
  | 0, F + 1, S, _, _, rt, sj => by
    rw [r_layOrder_110.eq_2, if_pos (by decide)]
    rw [List.drop_zero] at sj ⊢
    exact ⟨S, rfl, sj, Rk.rfl, fun _ h => h⟩
  | m + 1, F + 1, S, hF, hm, rt, sj => by
    obtain ⟨p1, rp⟩ := rt.2.2.1 t.1 hp
    have l7 := rp.2.2
    rw [List.length_map] at l7
    obtain ⟨e, he⟩ : ∃ e, (V.P t.1).es[m]? = some e := ⟨_, List.getElem?_eq_getElem (by omega)⟩
    have hk : (kidI V π t)[m]? = some (e.2.2, t.2.1 + 1, nI (π t.1), nI m) := by
      unfold kidI
      rw [if_neg (by rw [hl]; decide), List.getElem?_mapIdx, he]; rfl
    have hd : (kidI V π t).drop m = (e.2.2, t.2.1 + 1, nI (π t.1), nI m) :: (kidI V π t).drop (m + 1) := by
      have hlt := (List.getElem?_eq_some_iff.mp hk).1
      rw [List.drop_eq_getElem_cons hlt, (List.getElem?_eq_some_iff.mp hk).2]
    have e3 : r_entryOf S (nI (π t.1)) (nI m) 3 = some (nI (π e.2.2)) := by
      rw [rp.e3 (by omega) (e := reE V π (V.P t.1) e) (by rw [List.getElem?_map, he]; rfl)]
      unfold reE
      rw [if_neg (by rw [hl]; decide)]
    have ln : ((kidI V π t).drop (m + 1) ++ rest).length < 784 := by
      rw [List.length_append, List.length_drop, kidI_len hl]; omega
    have sj2 := sj.push (e.2.2, t.2.1 + 1, nI (π t.1), nI m)
    have hd2 : (kidI V π t).drop m ++ rest = (e.2.2, t.2.1 + 1, nI (π t.1), nI m) :: ((kidI V π t).drop (m + 1) ++ rest) := by rw [hd]; rfl
    generalize hk2 : ((kidI V π t).drop (m + 1) ++ rest).length = k at ln sj2 ⊢
    have rk : Rk S (w4 S 9 14 15 16 k (nI (π e.2.2)) (nI (t.2.1 + 1)) (nI (π t.1)) (nI m)) := w4_rk (by decide)
    obtain ⟨S', g1, g2, g3, g4⟩ := r_lo110 (k37 := k37) (x1 := x1) hp hU hl hb m F (w4 S 9 14 15 16 k (nI (π e.2.2)) (nI (t.2.1 + 1)) (nI (π t.1)) (nI m)) (by omega) (by omega) (by rw [rk.r0]; exact rt) (by rw [hd2]; exact sj2)
    refine ⟨S', ?_, g2, rk.trans g3, fun out h => g4 out h.push⟩
    rw [hd2, List.length_cons, hk2] at g1
    rw [r_layOrder_110.eq_2, show nI (m + 1) - 1 = nI m by rw [show (1 : Int32) = nI 1 from rfl, pk_sub (by omega)]; rfl, if_neg (nI_pos (by omega)), rp.l (by omega), bind_s, bI_0', if_pos (by rw [hl]; decide), e3, bind_s, wr_ok (by rw [len9s.1]; exact ln) (by omega), bind_s, wr_ok (by rw [len9s.2.2.2.2.2.1]; exact ln) (by omega), bind_s, wr_ok (by rw [len9s.2.2.2.2.2.2.1]; exact ln) (by omega), bind_s, wr_ok (by rw [len9s.2.2.2.2.2.2.2]; exact ln) (by omega), bind_s, nI_1, nI_1, ← Int32.sub_eq_add_neg]
    exact g1
theorem r_lo37 (w : Wf V g V.U) : ∀ (m F : Nat) (st out : List It) (S : MS), m < F → (stk V g π st).length = m → (∀ t ∈ st, t.1 < V.U) → out.length + m ≤ 784 → RT (S.1 0) V π → Sj S π st → Oj S π out → ∃ S', r_layOrder_37 F (nI out.length) (nI st.length) S = some (nI (out.length + m), S') ∧ Oj S' π (out ++ stk V g π st) ∧ Rk S S'
  | m, 0, _, _, _, h, _, _, _, _, _, _ => absurd h (Nat.not_lt_zero m)
  | m, F + 1, [], out, S, _, hm, _, _, _, _, oj => by
    have : m = 0 := hm.symm
    subst this
    rw [r_layOrder_37.eq_2, if_pos (show nI ([] : List It).length ≤ 0 by decide)]
    exact ⟨S, rfl, by rw [show stk V g π [] = [] from rfl, List.append_nil]; exact oj, Rk.rfl⟩
  | m, F + 1, t :: rest, out, S, hF, hm, hst, hb, rt, sj, oj => by
    have hp : t.1 < V.U := hst t (List.mem_cons_self ..)
    have u := w.u
    rw [stk_step w hp, List.length_cons] at hm
    obtain ⟨m, rfl⟩ : ∃ m', m = m' + 1 := ⟨m - 1, by omega⟩
    have hm2 : (stk V g π (kidI V π t ++ rest)).length = m := by omega
    have sl := stk_len (V := V) (g := g) (π := π) (kidI V π t ++ rest)
    rw [List.length_append] at sl
    have r784 : rest.length < 784 := by omega
    have o784 : out.length < 784 := by omega
    obtain ⟨p1, rp0⟩ := rt.2.2.1 t.1 hp
    obtain ⟨s9, s14, s15, s16⟩ := sj.top
    have n0 : ¬ nI (rest.length + 1) ≤ 0 := nI_ge (show 0 < rest.length + 1 by omega) (by omega)
    have rk : Rk S (w4 S 10 11 12 13 out.length (nI (π t.1)) (nI t.2.1) t.2.2.1 t.2.2.2) := w4_rk (by decide)
    have rt4 : RT ((w4 S 10 11 12 13 out.length (nI (π t.1)) (nI t.2.1) t.2.2.1 t.2.2.2).1 0) V π := by rw [rk.r0]; exact rt
    have sj4 := (sj.tl).out (i := out.length) (x := nI (π t.1)) (y := nI t.2.1) (z := t.2.2.1) (u := t.2.2.2)
    have oj4 := oj.out t
    have hds : ∀ x ∈ kidI V π t ++ rest, x.1 < V.U := fun x hx => by
      rcases List.mem_append.mp hx with h | h
      · have : x.1 ∈ kids V t.1 := by rw [← kidI_kids (π := π)]; exact List.mem_map.mpr ⟨x, h, Eq.refl _⟩
        exact (kids_mem w hp this).1
      · exact hst x (List.mem_cons_of_mem _ h)
    generalize hS4 : w4 S 10 11 12 13 out.length (nI (π t.1)) (nI t.2.1) t.2.2.1 t.2.2.2 = S4 at rk rt4 sj4 oj4
    have rp := (rt4.2.2.1 t.1 hp).2
    have l7 := rp.2.2
    rw [List.length_map] at l7
    have key : ∃ S', r_layOrder_110 (r_layOrder_37 F) FU (nI (out.length + 1)) (nI rest.length) (nI (π t.1)) (nI t.2.1) (nI (V.P t.1).es.length - 1) S4 = r_layOrder_37 F (nI (out.length + 1)) (nI (kidI V π t ++ rest).length) S' ∧ Sj S' π (kidI V π t ++ rest) ∧ Rk S4 S' ∧ (∀ o, Oj S4 π o → Oj S' π o) := by
      cases hl : (V.P t.1).lf with
      | false =>
        have dn : (kidI V π t).drop (V.P t.1).es.length = [] := List.drop_eq_nil_of_le (by rw [kidI_len hl]; exact Nat.le_refl _)
        have := r_lo110 (k37 := r_layOrder_37 F) (x1 := nI (out.length + 1)) (t := t) (rest := rest) hp (by omega) hl (by rw [← kidI_len (π := π) hl]; omega) (V.P t.1).es.length FU S4 (FU_gt (by omega)) (Nat.le_refl _) rt4 (by rw [dn, List.nil_append]; exact sj4)
        rw [dn, List.nil_append] at this
        exact this
      | true =>
        have kn : kidI V π t = [] := by unfold kidI; rw [if_pos hl]
        rw [kn, List.nil_append]
        refine ⟨S4, ?_, sj4, Rk.rfl, fun _ h => h⟩
        rw [show FU = 999999 + 1 from rfl, r_layOrder_110.eq_2]
        unfold r_layOrder_171
        by_cases z : (V.P t.1).es.length = 0
        · rw [if_pos (by rw [z]; decide)]
        · rw [show nI (V.P t.1).es.length - 1 = nI ((V.P t.1).es.length - 1) by rw [show (1 : Int32) = nI 1 from rfl, pk_sub (by omega)], if_neg (nI_pos (by omega)), rp.l (by omega), bind_s, bI_0', if_neg (by rw [hl]; decide)]
    obtain ⟨S', g1, g2, g3, g4⟩ := key
    obtain ⟨S2, k1, k2, k3⟩ := r_lo37 w m F (kidI V π t ++ rest) (out ++ [t]) S' (by omega) hm2 hds (by rw [List.length_append]; show out.length + 1 + m ≤ 784; omega) (by rw [g3.r0]; exact rt4) g2 (g4 _ oj4)
    refine ⟨S2, ?_, ?_, rk.trans (g3.trans k3)⟩
    · rw [List.length_append] at k1
      have k1 : r_layOrder_37 F (nI (out.length + 1)) (nI (kidI V π t ++ rest).length) S' = some (nI (out.length + 1 + m), S2) := k1
      have q15 : rd (up2 (up2 S.1 10 out.length (nI (π t.1))) 11 out.length (nI t.2.1), S.2) 15 (nI rest.length) = some t.2.2.1 := by
        rw [rd_ok (by rw [len9s.2.2.2.2.2.2.1]; exact r784) (by omega)]
        show some (up2 (up2 S.1 10 out.length (nI (π t.1))) 11 out.length (nI t.2.1) 15 rest.length) = _
        rw [up2_j (by decide), up2_j (by decide), s15]
      have q16 : rd (up2 (up2 (up2 S.1 10 out.length (nI (π t.1))) 11 out.length (nI t.2.1)) 12 out.length t.2.2.1, S.2) 16 (nI rest.length) = some t.2.2.2 := by
        rw [rd_ok (by rw [len9s.2.2.2.2.2.2.2]; exact r784) (by omega)]
        show some (up2 (up2 (up2 S.1 10 out.length (nI (π t.1))) 11 out.length (nI t.2.1)) 12 out.length t.2.2.1 16 rest.length) = _
        rw [up2_j (by decide), up2_j (by decide), up2_j (by decide), s16]
      have cnt : r_countOf S4 (nI (π t.1)) = some (nI (V.P t.1).es.length) := by rw [rp.n (by omega), List.length_map]
      unfold w4 at hS4
      rw [List.length_cons, r_layOrder_37.eq_2, if_neg n0, nI_dec (by omega), show rest.length + 1 - 1 = rest.length by omega, rd_ok (by rw [len9s.1]; exact r784) (by omega), bind_s, s9, rd_ok (by rw [len9s.2.2.2.2.2.1]; exact r784) (by omega), bind_s, s14, wr_ok (by rw [len9s.2.1]; exact o784) (by omega), bind_s, wr_ok (by rw [len9s.2.2.1]; exact o784) (by omega), bind_s, q15, bind_s, wr_ok (by rw [len9s.2.2.2.1]; exact o784) (by omega), bind_s, q16, bind_s, wr_ok (by rw [len9s.2.2.2.2.1]; exact o784) (by omega), bind_s, hS4, cnt, bind_s, nI_1, g1, k1]
      show some (nI (out.length + 1 + m), S2) = some (nI (out.length + (m + 1)), S2)
      rw [show out.length + 1 + m = out.length + (m + 1) by omega]
    · rw [stk_step w hp]
      rw [List.append_assoc] at k2
      exact k2
/-- the reference's order of pages -/
theorem r_layOrder_eq {S : MS} (rt : RT (S.1 0) V π) (w : Wf V g V.U) : ∃ S', r_layOrder S = some (nI (ord V g).length, S') ∧ Oj S' π (itp V π (g.ht V.R) (V.R, 0, -1, -1)) ∧ Rk S S' := by
  have u := w.u
  have ol := ord_len w
  have e : (itp V π (g.ht V.R) (V.R, 0, -1, -1)).length = (ord V g).length := by
    have := congrArg List.length (itp_pre (V := V) (π := π) (g.ht V.R) (V.R, 0, -1, -1))
    rw [List.length_map] at this
    exact this
  have es : stk V g π [(V.R, 0, -1, -1)] = itp V π (g.ht V.R) (V.R, 0, -1, -1) := List.append_nil _
  have sj : Sj S π [] := fun j t h => by cases j <;> cases h
  have sj2 := sj.push (V.R, 0, -1, -1)
  have rk : Rk S (w4 S 9 14 15 16 0 (nI (π V.R)) (nI 0) (-1) (-1)) := w4_rk (by decide)
  obtain ⟨S', g1, g2, g3⟩ := r_lo37 w (ord V g).length FU [(V.R, 0, -1, -1)] [] (w4 S 9 14 15 16 0 (nI (π V.R)) (nI 0) (-1) (-1)) (FU_gt (by omega)) (by rw [es, e]) (fun t ht => by
    have : t = (V.R, 0, -1, -1) := by simpa using ht
    rw [this]; exact w.1.1) (by show 0 + _ ≤ _; omega) (by rw [rk.r0]; exact rt) sj2 (fun j t h => by cases h)
  rw [es] at g2
  refine ⟨S', ?_, g2, rk.trans g3⟩
  have g1 : r_layOrder_37 FU 0 1 (w4 S 9 14 15 16 0 (nI (π V.R)) (nI 0) (-1) (-1)) = some (nI (0 + (ord V g).length), S') := g1
  rw [Nat.zero_add] at g1
  unfold r_layOrder
  rw [show (2 : Int32) = nI 2 from rfl, rd_r0 (by omega), bind_s, rt.2.1, show (0 : Int32) = nI 0 from rfl, wr_ok (by rw [len9s.1]; omega) (by omega), bind_s, wr_ok (by rw [len9s.2.2.2.2.2.1]; omega) (by omega), bind_s, wr_ok (by rw [len9s.2.2.2.2.2.2.1]; omega) (by omega), bind_s, wr_ok (by rw [len9s.2.2.2.2.2.2.2]; omega) (by omega), bind_s]
  exact g1
end RORDER2
