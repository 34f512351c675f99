section CWALK5
variable {E : Nat} {L : List Nat} {V : Vt} {g : Gh}
/-- fields 307 and 310 of one page alone are changed -/
def Fg (a : Nat) (σ σ' : Hp) : Prop := (σ'.kd = σ.kd ∧ σ'.ln = σ.ln ∧ σ'.fr = σ.fr ∧ σ'.ar = σ.ar ∧ σ'.rr = σ.rr ∧ σ'.nx = σ.nx ∧ σ'.us = σ.us) ∧ ∀ i y, ¬ (y = a ∧ (i = 307 ∨ i = 310)) → σ'.fi i y = σ.fi i y
theorem Fg.rfl {a : Nat} {σ : Hp} : Fg a σ σ := ⟨⟨Eq.refl _, Eq.refl _, Eq.refl _, Eq.refl _, Eq.refl _, Eq.refl _, Eq.refl _⟩, fun _ _ _ => Eq.refl _⟩
theorem Fg.tr {a : Nat} {σ σ1 σ2 : Hp} (h : Fg a σ σ1) (q : Fg a σ1 σ2) : Fg a σ σ2 := by
  obtain ⟨⟨a1, a2, a3, a4, a5, a6, a7⟩, a8⟩ := h
  obtain ⟨⟨b1, b2, b3, b4, b5, b6, b7⟩, b8⟩ := q
  exact ⟨⟨b1.trans a1, b2.trans a2, b3.trans a3, b4.trans a4, b5.trans a5, b6.trans a6, b7.trans a7⟩, fun i y z => (b8 i y z).trans (a8 i y z)⟩
theorem Fg.w {a i : Nat} {v : Int32} {σ : Hp} (h : i = 307 ∨ i = 310) : Fg a σ (sfi σ i a v) := ⟨⟨Eq.refl _, Eq.refl _, Eq.refl _, Eq.refl _, Eq.refl _, Eq.refl _, Eq.refl _⟩, fun j y z => by rw [fi_sfi, if_neg (fun q => z ⟨q.2, by rw [q.1]; exact h⟩)]⟩
theorem c_gather26 (w : Wf V g V.U) {p a : Nat} {sp tb : Nat → Nat} {s0 t0 : Nat} (hp : p < V.U) (ha : L[p]? = some a) (hl : (V.P p).lf = false) : ∀ (m F k : Nat) (σ : Hp), m < F → k + m = (V.P p).es.length → St σ 3 E L V → (σ.kd 27 = 20 ∧ σ.fr 1000 27 = 3) → (∀ (j : Nat) (e : Ent) (b : Nat), (V.P p).es[j]? = some e → L[e.2.2]? = some b → σ.fi 307 b = nI (sp e.2.2) ∧ σ.fi 310 b = nI (tb e.2.2)) → σ.fi 307 a = nI (s0 + (((V.P p).es.take k).map (fun e => sp e.2.2)).sum) → σ.fi 310 a = nI (t0 + (((V.P p).es.take k).map (fun e => tb e.2.2)).sum) → ∃ σ', kX10_gatherFromBelow_26 F 27 a (nI k) σ = some σ' ∧ St σ' 3 E L V ∧ Fg a σ σ' ∧ σ'.fi 307 a = nI (s0 + ((V.P p).es.map (fun e => sp e.2.2)).sum) ∧ σ'.fi 310 a = nI (t0 + ((V.P p).es.map (fun e => tb e.2.2)).sum)
  | m, 0, _, _, h, _, _, _, _, _, _ => absurd h (Nat.not_lt_zero m)
  | 0, F + 1, k, σ, _, hk, st, wl, hc, f7, f10 => by
    have pc := st.2.2.2.2.2.2 p a hp ha
    have l7 := pc.le
    rw [List.take_of_length_le (by omega)] at f7 f10
    rw [kX10_gatherFromBelow_26.eq_2, pc.n, bind_s, if_pos (nI_le (by omega) (by omega))]
    exact ⟨σ, rfl, st, Fg.rfl, f7, f10⟩
  | m + 1, F + 1, k, σ, hF, hk, st, wl, hc, f7, f10 => by
    have pc := st.2.2.2.2.2.2 p a hp ha
    have l7 := pc.le
    obtain ⟨e, he⟩ : ∃ e, (V.P p).es[k]? = some e := ⟨_, List.getElem?_eq_getElem (by omega)⟩
    have nd := st.2.2.2.1
    have anb : ∀ (e' : Ent) (b' : Nat), e' ∈ (V.P p).es → L[e'.2.2]? = some b' → b' ≠ a := fun e' b' he' hb' z => by
      obtain ⟨c1, c2, -⟩ := ((w.2.1 p hp).2.1 e' he').2.2.1 hl
      have := nd_eq nd ha (z ▸ hb')
      rw [← this] at c2
      omega
    obtain ⟨c1, c2, -⟩ := ((w.2.1 p hp).2.1 e (List.mem_of_getElem? he)).2.2.1 hl
    obtain ⟨b, hbL, pcb, hat⟩ := st.pg c1
    have ab := anb e b (List.mem_of_getElem? he) hbL
    obtain ⟨b7, b10⟩ := hc k e b he hbL
    generalize hv1 : nI (s0 + (((V.P p).es.take (k + 1)).map (fun e => sp e.2.2)).sum) = v1
    generalize hv2 : nI (t0 + (((V.P p).es.take (k + 1)).map (fun e => tb e.2.2)).sum) = v2
    have fg : Fg a σ (sfi (sfi σ 307 a v1) 310 a v2) := (Fg.w (Or.inl (Eq.refl _))).tr (Fg.w (Or.inr (Eq.refl _)))
    obtain ⟨s', q1, q2, q3, q4, q5⟩ := c_gather26 w (s0 := s0) (t0 := t0) (sp := sp) (tb := tb) hp ha hl m F (k + 1) (sfi (sfi σ 307 a v1) 310 a v2) (by omega) (by omega) ((st.w (by omega)).w (by omega)) wl (fun j e' b' he' hb' => by
      have nb := anb e' b' (List.mem_of_getElem? he') hb'
      rw [fg.2 307 b' (fun z => nb z.1), fg.2 310 b' (fun z => nb z.1)]
      exact hc j e' b' he' hb') (by rw [hv1, fi_sfi, if_neg (by omega), fi_sfi, if_pos ⟨Eq.refl _, Eq.refl _⟩]) (by rw [hv2, fi_sfi, if_pos ⟨Eq.refl _, Eq.refl _⟩])
    refine ⟨s', ?_, q2, fg.tr q3, q4, q5⟩
    have e1 : nI (s0 + (((V.P p).es.take k).map (fun e => sp e.2.2)).sum) + nI (sp e.2.2) = v1 := by rw [← hv1, nI_add, take_sum he, Nat.add_assoc]
    have e2 : nI (t0 + (((V.P p).es.take k).map (fun e => tb e.2.2)).sum) + nI (tb e.2.2) = v2 := by rw [← hv2, nI_add, take_sum he, Nat.add_assoc]
    rw [kX10_gatherFromBelow_26.eq_2, pc.n, bind_s, if_neg (nI_ge (by omega) (by omega)), pc.l, bind_s, bI_0', if_pos (by rw [hl]; decide), gfr_ok wl.1, wl.2, bind_s, pc.1.f3, bind_s, pc.b he hl, bind_s, st.cs, hat, bind_s, gfi_ok pc.1.1, f7, bind_s, gfi_ok pcb.1.1, b7, bind_s, pfi_ok pc.1.1, bind_s, e1, gfi_ok (show (sfi σ 307 a v1).kd a = 13 from pc.1.1), fi_sfi, if_neg (by omega), f10, bind_s, gfi_ok (show (sfi σ 307 a v1).kd b = 13 from pcb.1.1), fi_sfi, if_neg (by omega), b10, bind_s, pfi_ok (show (sfi σ 307 a v1).kd a = 13 from pc.1.1), bind_s, e2, nI_1]
    exact q1
end CWALK5
