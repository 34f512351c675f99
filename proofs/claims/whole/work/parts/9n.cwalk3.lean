section CWALK3
variable {E : Nat} {L : List Nat} {V : Vt} {g : Gh} {N U : Nat}
/-- addresses of the pages below a page -/
def ka (V : Vt) (L : List Nat) (p : Nat) : List Nat := (V.P p).es.map (fun e => (L[e.2.2]?).getD 0)
def Fw (V : Vt) (L : List Nat) (p k E8 : Nat) (σ σ' : Hp) : Prop := σ.nx ≤ σ'.nx ∧ (∀ y, y < σ.nx → σ'.kd y = σ.kd y ∧ σ'.ln y = σ.ln y) ∧ ∀ y, y < σ.nx → y ≠ 28 → y ≠ E8 → (σ'.kd y = σ.kd y ∧ σ'.ln y = σ.ln y ∧ (∀ j, σ'.fr j y = σ.fr j y) ∧ σ'.ar y = σ.ar y ∧ σ'.rr y = σ.rr y) ∧ ∀ i, (i ≠ 308 ∧ i ≠ 309) ∨ (∀ (j : Nat) (e : Ent), k ≤ j → (V.P p).es[j]? = some e → L[e.2.2]? ≠ some y) → σ'.fi i y = σ.fi i y
theorem nd_eq {L : List Nat} (nd : L.Nodup) {i j a : Nat} (h1 : L[i]? = some a) (h2 : L[j]? = some a) : i = j := by
  have l1 := (List.getElem?_eq_some_iff.mp h1).1
  exact (List.getElem?_inj l1 nd).mp (h1.trans h2.symm)
theorem c_lineUp (w : Wf V g V.U) {p a pl d : Nat} {T R : List Nat} (hp : p < V.U) (ha : L[p]? = some a) (hl : (V.P p).lf = false) (hT : T.length = pl + 1) (hb : T.length + (V.P p).es.length + R.length < 1000) : ∀ (m F k : Nat) (σ : Hp) (E8 : Nat), m < F → k + m = (V.P p).es.length → St σ 3 E L V → Wn σ → Wl N U σ E L E8 (T ++ ((ka V L p).take k ++ R)) → σ.fi 306 a = nI pl → σ.fi 308 a = nI d → ∃ σ' E8', kX10_lineUpBelow_2 F 27 a (nI k) σ = some σ' ∧ St σ' 3 E L V ∧ Wn σ' ∧ Wl N U σ' E L E8' (T ++ (ka V L p ++ R)) ∧ Fw V L p k E8 σ σ' ∧ (E8' = E8 ∨ σ.nx ≤ E8') ∧ ∀ (j : Nat) (e : Ent) (b : Nat), k ≤ j → (V.P p).es[j]? = some e → L[e.2.2]? = some b → σ'.fi 308 b = nI (d + 1) ∧ σ'.fi 309 b = nI e.2.1
  | m, 0, _, _, _, h, _, _, _, _, _, _ => absurd h (Nat.not_lt_zero m)
  | 0, F + 1, k, σ, E8, _, hk, st, wn, wl, f6, f8 => by
    have pc := st.2.2.2.2.2.2 p a hp ha
    have l7 := pc.le
    have kl : (ka V L p).take k = ka V L p := List.take_of_length_le (by unfold ka; rw [List.length_map]; omega)
    rw [kl] at wl
    rw [kX10_lineUpBelow_2.eq_2, pc.n, bind_s, if_pos (nI_le (by omega) (by omega))]
    refine ⟨σ, E8, rfl, st, wn, wl, ⟨Nat.le_refl _, fun _ _ => ⟨rfl, rfl⟩, fun y _ _ _ => ⟨⟨rfl, rfl, fun _ => rfl, rfl, rfl⟩, fun _ _ => rfl⟩⟩, Or.inl rfl, fun j e b hj he _ => ?_⟩
    have := (List.getElem?_eq_some_iff.mp he).1
    omega
  | m + 1, F + 1, k, σ, E8, hF, hk, st, wn, wl, f6, f8 => by
    have pc := st.2.2.2.2.2.2 p a hp ha
    have l7 := pc.le
    obtain ⟨e, he⟩ : ∃ e, (V.P p).es[k]? = some e := ⟨_, List.getElem?_eq_getElem (by omega)⟩
    obtain ⟨c1, c2, -⟩ := ((w.2.1 p hp).2.1 e (List.mem_of_getElem? he)).2.2.1 hl
    obtain ⟨b, hbL, pcb, hat⟩ := st.pg c1
    have nd := st.2.2.2.1
    have ab : a ≠ b := fun z => by
      have := nd_eq nd ha (z ▸ hbL)
      rw [← this] at c2
      omega
    have anx := Fp.lt st wn (Or.inr (Or.inr ⟨a, List.mem_of_getElem? ha, ⟨Nat.le_refl _, by omega⟩⟩))
    have aA := wl.2.2.1 a (Or.inr (Or.inr ⟨a, List.mem_of_getElem? ha, ⟨Nat.le_refl _, by omega⟩⟩))
    have bnx := Fp.lt st wn (Or.inr (Or.inr ⟨b, List.mem_of_getElem? hbL, ⟨Nat.le_refl _, by omega⟩⟩))
    have bA := wl.2.2.1 b (Or.inr (Or.inr ⟨b, List.mem_of_getElem? hbL, ⟨Nat.le_refl _, by omega⟩⟩))
    generalize h8 : sfi (sfi σ 308 b (nI (d + 1))) 309 b (nI e.2.1) = s8
    have st8 : St s8 3 E L V := by rw [← h8]; exact (st.w (by omega)).w (by omega)
    have wn8 : Wn s8 := by rw [← h8]; exact wn
    have wl8 : Wl N U s8 E L E8 (T ++ ((ka V L p).take k ++ R)) := by rw [← h8]; exact (wl.w (by omega)).w (by omega)
    have kl : ((ka V L p).take k).length = k := by rw [List.length_take]; unfold ka; rw [List.length_map]; omega
    have ol : (T ++ ((ka V L p).take k ++ R)).length = T.length + k + R.length := by rw [List.length_append, List.length_append, kl]; omega
    obtain ⟨s9, E9, g1, g2, g3, g4, g5, g6⟩ := wl8.ins st8 wn8 (k := pl + 1 + k) (a := b) (by rw [ol]; omega) (by rw [← h8]; exact pcb.1.1) (by rw [ol]; omega)
    have kk : (ka V L p)[k]? = some b := by unfold ka; rw [List.getElem?_map, he]; show some ((L[e.2.2]?).getD 0) = _; rw [hbL]; rfl
    have le : lin (T ++ ((ka V L p).take k ++ R)) (pl + 1 + k) b = T ++ ((ka V L p).take (k + 1) ++ R) := by
      unfold lin
      rw [← List.append_assoc, List.take_left' (by rw [List.length_append, kl]; omega), List.drop_left' (by rw [List.length_append, kl]; omega), List.take_succ, kk]
      simp
    rw [le] at g4
    have n8 : s8.nx = σ.nx := by rw [← h8]; rfl
    have a9 : ∀ i, s9.fi i a = σ.fi i a := fun i => by
      rw [(g5.2.2 a (by omega) (fun q => by omega)).1, ← h8, fi_sfi, if_neg (fun q => ab q.2), fi_sfi, if_neg (fun q => ab q.2)]
    obtain ⟨s', E', q1, q2, q3, q4, q5, q6, q7⟩ := c_lineUp w hp ha hl hT hb m F (k + 1) s9 E9 (by omega) (by omega) g2 g3 g4 (by rw [a9]; exact f6) (by rw [a9]; exact f8)
    have nx9 := g5.1
    have b9 : s9.fi 308 b = nI (d + 1) ∧ s9.fi 309 b = nI e.2.1 := by
      have := (g5.2.2 b (by omega) (fun q => by omega)).1
      rw [this, this, ← h8]
      exact ⟨by rw [fi_sfi, if_neg (by omega), fi_sfi, if_pos ⟨rfl, rfl⟩], by rw [fi_sfi, if_pos ⟨rfl, rfl⟩]⟩
    have bn : ∀ (j : Nat) (e' : Ent), k + 1 ≤ j → (V.P p).es[j]? = some e' → L[e'.2.2]? ≠ some b := fun j e' hj he' z => by
      have i1 := nd_eq nd hbL z
      have kn : ((V.P p).es.map (fun e => e.2.2)).Nodup := (w.2.1 p hp).2.2.1.1 hl
      have := nd_eq kn (i := k) (j := j) (a := e.2.2) (by rw [List.getElem?_map, he]; rfl) (by rw [List.getElem?_map, he', i1]; rfl)
      omega
    refine ⟨s', E', ?_, q2, q3, q4, ⟨by have := q5.1; omega, fun y y1 => ⟨(q5.2.1 y (by omega)).1.trans ((g5.2.1 y (by omega)).1.trans (by rw [← h8]; rfl)), (q5.2.1 y (by omega)).2.trans ((g5.2.1 y (by omega)).2.trans (by rw [← h8]; rfl))⟩, fun y y1 y2 y3 => ?_⟩, ?_, fun j e' b' hj he' hb' => ?_⟩
    · rw [kX10_lineUpBelow_2.eq_2, pc.n, bind_s, if_neg (nI_ge (by omega) (by omega)), pc.l, bind_s, bI_0', if_pos (by rw [hl]; decide), gfr_ok wl.1.1, wl.1.2.1, bind_s, pc.1.f3, bind_s, pc.b he hl, bind_s, st.cs, hat, bind_s, gfi_ok pc.1.1, f8, bind_s, pfi_ok pcb.1.1, bind_s, nI_1, (pc.w (i := 308) (x := b) (v := nI (d + 1)) (by omega)).1.f2, bind_s, (pc.w (i := 308) (x := b) (v := nI (d + 1)) (by omega)).r he, bind_s, pfi_ok (show (sfi σ 308 b (nI (d + 1))).kd b = 13 from pcb.1.1), bind_s, h8, gfr_ok wl8.1.1, wl8.1.2.2.2, bind_s, gfi_ok (st8.2.2.2.2.2.2 p a hp ha).1.1, bind_s, show s8.fi 306 a = nI pl by rw [← h8, fi_sfi, if_neg (by omega), fi_sfi, if_neg (by omega)]; exact f6, wl8.2.1.c, nI_1, nI_add, g1, bind_s, nI_1]
      exact q1
    · obtain ⟨u1, u2⟩ := q5.2.2 y (by omega) y2 (by rcases g6 with z | z <;> omega)
      obtain ⟨v1, v2⟩ := g5.2.1 y (by omega)
      obtain ⟨v3, v4, v5, v6⟩ := g5.2.2 y (by omega) (fun q => by omega)
      refine ⟨⟨u1.1.trans (v1.trans (by rw [← h8]; rfl)), u1.2.1.trans (v2.trans (by rw [← h8]; rfl)), fun j => (u1.2.2.1 j).trans ((v4 j).trans (by rw [← h8]; rfl)), u1.2.2.2.1.trans (v5.trans (by rw [← h8]; rfl)), u1.2.2.2.2.trans (v6.trans (by rw [← h8]; rfl))⟩, fun i hi => ?_⟩
      rw [u2 i (by rcases hi with z | z; exact Or.inl z; exact Or.inr (fun j e' hj => z j e' (by omega))), v3, ← h8, fi_sfi, if_neg ?_, fi_sfi, if_neg ?_]
      · rintro ⟨rfl, rfl⟩
        rcases hi with z | z
        · exact z.1 rfl
        · exact z k e (Nat.le_refl _) he hbL
      · rintro ⟨rfl, rfl⟩
        rcases hi with z | z
        · exact z.2 rfl
        · exact z k e (Nat.le_refl _) he hbL
    · rcases q6 with z | z
      · rcases g6 with y | y
        · exact Or.inl (z.trans y)
        · exact Or.inr (by omega)
      · exact Or.inr (by omega)
    · by_cases z : j = k
      · subst z
        rw [he] at he'
        cases he'
        rw [hbL] at hb'
        cases hb'
        have := (q5.2.2 b (by omega) bA.1 (by rcases g6 with z | z <;> omega)).2
        rw [this 308 (Or.inr bn), this 309 (Or.inr bn)]
        exact b9
      · exact q7 j e' b' (by omega) he' hb'
end CWALK3
