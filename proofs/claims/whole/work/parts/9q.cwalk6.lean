section CWALK6
variable {E : Nat} {L : List Nat} {V : Vt} {g : Gh}
theorem c_gather (w : Wf V g V.U) {σ : Hp} {p a : Nat} {sp tb : Nat → Nat} (hp : p < V.U) (ha : L[p]? = some a) (st : St σ 3 E L V) (wl : σ.kd 27 = 20 ∧ σ.fr 1000 27 = 3) (hc : (V.P p).lf = false → ∀ (j : Nat) (e : Ent) (b : Nat), (V.P p).es[j]? = some e → L[e.2.2]? = some b → σ.fi 307 b = nI (sp e.2.2) ∧ σ.fi 310 b = nI (tb e.2.2)) : ∃ σ', kX10_gatherFromBelow σ 27 a = some σ' ∧ St σ' 3 E L V ∧ Fg a σ σ' ∧ σ'.fi 307 a = nI (1 + ((kids V p).map sp).sum) ∧ σ'.fi 310 a = nI (if (V.P p).lf = true then (V.P p).es.length else ((kids V p).map tb).sum) := by
  have pc := st.2.2.2.2.2.2 p a hp ha
  have l7 := pc.le
  unfold kX10_gatherFromBelow kX10_gatherFromBelow_21 kids
  have pc1 := pc.w (i := 307) (x := a) (v := 1) (by omega)
  rw [pfi_ok pc.1.1, bind_s, pc1.l, bind_s, bI_0', pfi_ok pc1.1.1, bind_s, pc1.n, bind_s, pfi_ok pc1.1.1, bind_s]
  cases hl : (V.P p).lf with
  | false =>
    have fg : Fg a σ (sfi (sfi σ 307 a 1) 310 a 0) := (Fg.w (Or.inl rfl)).tr (Fg.w (Or.inr rfl))
    have nd := st.2.2.2.1
    obtain ⟨s', q1, q2, q3, q4, q5⟩ := c_gather26 w (s0 := 1) (t0 := 0) (sp := sp) (tb := tb) hp ha hl (V.P p).es.length FU 0 (sfi (sfi σ 307 a 1) 310 a 0) (FU_gt (by omega)) (by omega) ((st.w (by omega)).w (by omega)) wl (fun j e' b' he' hb' => by
      have nb : b' ≠ a := fun z => by
        obtain ⟨c1, c2, -⟩ := ((w.2.1 p hp).2.1 e' (List.mem_of_getElem? he')).2.2.1 hl
        have := nd_eq nd ha (z ▸ hb')
        rw [← this] at c2
        omega
      rw [fg.2 307 b' (fun z => nb z.1), fg.2 310 b' (fun z => nb z.1)]
      exact hc hl j e' b' he' hb') (by rw [fi_sfi, if_neg (by omega), fi_sfi, if_pos ⟨rfl, rfl⟩]; rfl) (by rw [fi_sfi, if_pos ⟨rfl, rfl⟩]; rfl)
    rw [if_pos (by decide), if_neg (by decide), if_neg (by decide), List.map_map, List.map_map]
    refine ⟨s', q1, q2, fg.tr q3, q4, ?_⟩
    rw [Nat.zero_add] at q5
    exact q5
  | true =>
    rw [if_neg (by decide), if_pos rfl, if_pos rfl]
    have fg : Fg a σ (sfi (sfi σ 307 a 1) 310 a (nI (V.P p).es.length)) := (Fg.w (Or.inl rfl)).tr (Fg.w (Or.inr rfl))
    have pc2 := pc1.w (i := 310) (x := a) (v := nI (V.P p).es.length) (by omega)
    refine ⟨_, ?_, (st.w (by omega)).w (by omega), fg, by rw [fi_sfi, if_neg (by omega), fi_sfi, if_pos ⟨rfl, rfl⟩]; rfl, by rw [fi_sfi, if_pos ⟨rfl, rfl⟩]⟩
    rw [show FU = 999999 + 1 from rfl, kX10_gatherFromBelow_26.eq_2, pc2.n, bind_s]
    by_cases z : (V.P p).es.length = 0
    · rw [if_pos (by rw [z]; decide)]
    · rw [if_neg (show ¬ nI (V.P p).es.length ≤ 0 from nI_ge (show 0 < (V.P p).es.length by omega) (by omega)), pc2.l, bind_s, bI_0', if_neg (by rw [hl]; decide)]
end CWALK6
