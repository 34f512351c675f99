section STs
variable {σ σ' : Hp} {s E : Nat} {L : List Nat} {V : Vt}
theorem Hd.si {i : Nat} {v : Int32} (h : Hd σ s V) (hi : i = 709 ∨ i = 710 ∨ i = 711 ∨ i = 712) : Hd (sfi σ i s v) s V := by
  obtain ⟨a1, a2, a3, ⟨f1, f2, f3, f4⟩, a5⟩ := h
  exact ⟨a1, a2, a3, ⟨by rw [fi_sfi, if_neg (by omega)]; exact f1, by rw [fi_sfi, if_neg (by omega)]; exact f2, by rw [fi_sfi, if_neg (by omega)]; exact f3, by rw [fi_sfi, if_neg (by omega)]; exact f4⟩, a5⟩
theorem PG.si {i a b : Nat} {v : Int32} (h : PG σ a) : PG (sfi σ i b v) a := h
theorem PC.si {i a b : Nat} {v : Int32} {p : Pg} (h : PC σ a p) (hb : a ≠ b) : PC (sfi σ i b v) a p := by
  obtain ⟨a1, ⟨a2, a3, a4, a5⟩, a6⟩ := h
  exact ⟨a1, ⟨by rw [fi_sfi, if_neg (fun q => hb q.2)]; exact a2, by rw [fi_sfi, if_neg (fun q => hb q.2)]; exact a3, by rw [fi_sfi, if_neg (fun q => hb q.2)]; exact a4, a5⟩, a6⟩
theorem Lv.si {i l b : Nat} {v : Int32} (h : Lv σ l E L) (hb : l ≠ b) : Lv (sfi σ i b v) l E L := by
  obtain ⟨⟨a1, a2, a3, a4⟩, a5⟩ := h
  exact ⟨⟨a1, a2, by rw [fi_sfi, if_neg (fun q => hb q.2)]; exact a3, a4⟩, a5⟩
theorem St.take29 {l : Bool} (h : St σ s E L V) (hw : Wn σ) (hU : V.U < L.length) : ∃ σ', kX7_takePage_29 s (bI (l = true)) σ = some (nI V.U, σ') ∧ St σ' s E L ((V.sU (V.U + 1)).sP V.U (mkP l none [])) ∧ Oq s σ E L σ' E L ∧ (∀ i, i ≠ 709 → σ'.fi i s = σ.fi i s) := by
  have h1000 := h.lv.1.2.2.2
  obtain ⟨h1, ⟨h2, h3⟩, h4, h5, h6, h7, h8⟩ := id h
  obtain ⟨a, ha⟩ : ∃ a, L[V.U]? = some a := ⟨L[V.U], List.getElem?_eq_getElem hU⟩
  have am := List.mem_of_getElem? ha
  have pa := h6 a am
  have ds := pg_hd pa h1 h.kl
  unfold kX7_takePage_29
  rw [h.u, bind_s, bind_s, pfi_ok h.ks, bind_s, nI_1]
  generalize hσ3 : sfi σ 709 s (nI (V.U + 1)) = σ3
  have hd3 : Hd σ3 s V := by rw [← hσ3]; exact h1.si (Or.inl rfl)
  have lv3 : Lv σ3 (s + 5) E L := by rw [← hσ3]; exact h4.si (by omega)
  have w3 : Wn σ3 := by rw [← hσ3]; exact hw
  have u3 : σ3.fi 709 s = nI (V.U + 1) := by rw [← hσ3, fi_sfi, if_pos ⟨rfl, rfl⟩]
  have r3 : σ3.fi 710 s = nI V.R := by rw [← hσ3, fi_sfi, if_neg (by omega)]; exact h3
  have pg3 : ∀ b ∈ L, PG σ3 b := fun b hb => by rw [← hσ3]; exact (h6 b hb).si
  have pc3 : ∀ p b, p < V.U → L[p]? = some b → PC σ3 b (V.P p) := fun p b hp hb => by
    have := pg_hd (h6 b (List.mem_of_getElem? hb)) h1 h.kl
    rw [← hσ3]; exact (h8 p b hp hb).si (by omega)
  have at3 : kX7_at σ3 s (nI V.U) = some a := by
    unfold kX7_at kX7_at_24
    rw [gfr_ok hd3.1.1, hd3.2.2.1.2.2.2.2, bind_s, if_neg (nI_pos (by omega)), gfi_ok hd3.1.1, u3, bind_s, if_neg (nI_ge (by omega) (by omega)), lv3.c, lv3.at ha, bind_s, ckc_ok (pg3 a am).1]
  obtain ⟨σ5, g1, g2, g3⟩ := c_empty (l := l) (pg3 a am)
  rw [ckd_ok hd3.1.1, at3, bind_s, ckd_ok (pg3 a am).1, g1, bind_s]
  have q0 := g3.1.2.2 s (w3.lt hd3.1.1) (fun q => by unfold Ap at q; omega)
  refine ⟨σ5, rfl, ⟨hd3.df w3 g3.1 (fun x a b q => by unfold Ap at q; omega), ⟨(q0.1 _).trans u3, (q0.1 _).trans r3⟩, lv3.df w3 g3.1 (fun q => by unfold Ap at q; omega) (fun hn => pg_row (pg3 a am) (by
    rcases lv3.2.1 with q | q
    · exact absurd q.1 hn
    · exact q.1)), h5, fun b hb => ?_, hU, fun q b hq hb => ?_⟩, ⟨g3.wn w3, ?_, fun _ _ q => q, Or.inl rfl, ?_, ?_⟩, fun i hi => by rw [q0.1 i, ← hσ3, fi_sfi, if_neg (fun y => hi y.1)]⟩
  · by_cases e : b = a
    · rw [e]; exact g2.1
    · have := pg_pg (pg3 b hb) (pg3 a am) e
      exact (pg3 b hb).df w3 g3.1 (fun q => by unfold Ap at q; omega)
  · by_cases e : q = V.U
    · subst e
      rw [ha] at hb
      cases hb
      rw [sP_s]
      exact g2
    · have ne : b ≠ a := fun z => by
        subst z
        have i1 := get_lt ha
        have i2 := get_lt hb
        exact e ((List.getElem_inj h5).mp (by rw [← Option.some_inj, ← List.getElem?_eq_getElem i2, ← List.getElem?_eq_getElem i1, ha, hb]))
      have hq : q < V.U + 1 := hq
      have := pg_pg (pg3 b (List.mem_of_getElem? hb)) (pg3 a am) ne
      rw [sP_n e]
      exact (pc3 q b (by omega) hb).df w3 g3.1 (fun x q1 q2 q => by unfold Ap at q; omega)
  · refine Df.trans (A := Fp s E L) (B := Ap a) (σ1 := σ3) ?_ g3.1 (fun x _ q => Or.inr (Or.inr ⟨a, am, q⟩))
    rw [← hσ3]
    exact Df.xi (Or.inl ⟨Nat.le_refl _, by omega⟩)
  · unfold Pn; rw [g3.2.1, g3.2.2.2.2, ← hσ3]; exact Nat.le_refl _
  · unfold Pu; rw [g3.2.2.1, g3.2.2.2.2, ← hσ3]; exact Nat.le_refl _
theorem Fp.lt {x : Nat} (h : St σ s E L V) (hw : Wn σ) (q : Fp s E L x) : x < σ.nx := by
  rcases q with q | q | ⟨a, ha, q⟩
  · have := hw.lt h.kl
    omega
  · subst q
    rcases h.lv.2.1 with z | z
    · have := hw.1
      omega
    · exact hw.lt z.1
  · have := h.2.2.2.2.1 a ha
    have := hw.lt this.2.2.1.2.2
    unfold Ap at q
    omega
theorem St.take {l : Bool} (h : St σ s E L V) (hw : Wn σ) (hU : V.U < 900) (hn : Pn σ E L ≤ NXc) (hu : Pu σ E L ≤ UXc) : ∃ σ' E' L', kX7_takePage σ s (bI (l = true)) = some (nI V.U, σ') ∧ St σ' s E' L' ((V.sU (V.U + 1)).sP V.U (mkP l none [])) ∧ Oq s σ E L σ' E' L' ∧ (∀ k x : Nat, L[k]? = some x → L'[k]? = some x) ∧ (∀ i, i ≠ 709 → σ'.fi i s = σ.fi i s) := by
  have h1000 := h.lv.1.2.2.2
  have h7 := h.2.2.2.2.2.1
  unfold kX7_takePage
  rw [h.u, bind_s, h.pl, bind_s, h.lv.c, h.lv.size, bind_s]
  by_cases q : V.U < L.length
  · rw [if_pos (nI_lt q (by omega))]
    obtain ⟨σ', g1, g2, g3, g4⟩ := h.take29 (l := l) hw q
    exact ⟨σ', E, L, g1, g2, g3, fun _ _ z => z, g4⟩
  · rw [if_neg (nI_nlt (by omega) (by omega)), bind_s]
    unfold Pn at hn
    unfold Pu at hu
    obtain ⟨σ1, σ2, g1, g2, g3, g4, g5, g6, g7⟩ := c_newPage hw (by omega) (by omega)
    have nz2 : σ.nx ≠ 0 := by have := hw.1; omega
    rw [g1, bd2_s, nz_ok nz2, bind_s, g2, bind_s]
    have st2 : St σ2 s E L V := h.df hw g5 (fun _ _ q => q)
    have lE : σ2.ln E = σ.ln E := by
      rcases h.lv.2.1 with q | q
      · rw [q.1]; exact (g5.2.1 1 (hw.lt q.2.1)).2
      · exact (g5.2.1 E (hw.lt q.1)).2
    obtain ⟨σ3, E3, a1, a2, a3, a4, a5, a6, a7⟩ := st2.lv.add g4 (Or.inl g3.1.1) (by omega) (by omega) (by omega)
    rw [st2.lv.c, a1, bd2_s]
    have dE : ∀ x, x = s + 5 ∨ x = E → Fp s E L x := fun x hx => by
      rcases hx with rfl | rfl
      · exact Or.inl ⟨by omega, by omega⟩
      · exact Or.inr (Or.inl rfl)
    have lt5 := hw.lt h.kl
    have na : ∀ x, σ.nx ≤ x → x < σ2.nx → ¬ (x = s + 5 ∨ x = E) := fun x hx _ q => by
      have := Fp.lt h hw (dE x q)
      omega
    have nm : σ.nx ∉ L := fun hm => by
      have := Fp.lt h hw (Or.inr (Or.inr ⟨σ.nx, hm, Nat.le_refl _, by omega⟩))
      omega
    have pn3 : PC σ3 σ.nx (mkP true none []) := g3.df g4 a4 (fun x q1 q2 => na x q1 (by omega))
    have hl3 : (L ++ [σ.nx]).length = L.length + 1 := by rw [List.length_append]; rfl
    have pgs : ∀ b ∈ L, ∀ x, Ap b x → ¬ (x = s + 5 ∨ x = E) := fun b hb x hx q => by
      have pb := h.2.2.2.2.1 b hb
      rcases q with q | q
      · have := pg_hd pb h.1 h.kl
        unfold Ap at hx
        omega
      · subst q
        by_cases h1 : x = 1
        · have kx := (h.2.2.1.2.1).resolve_right (fun z => z.2.2.2.2 h1)
          rw [kx.2.2.2] at hb
          cases hb
        · exact pg_row pb (h.E_ne h1) hx
    have q0 := a4.2.2 s (g4.lt st2.ks) (fun q => by
      rcases q with q | q
      · omega
      · by_cases h1 : E = 1
        · have kx := (h.2.2.1.2.1).resolve_right (fun z => z.2.2.2.2 h1)
          have k5 := kx.2.1
          rw [← h1, ← q] at k5
          rw [h.ks] at k5
          cases k5
        · have := h.E_hd h1
          omega)
    have st3 : St σ3 s E3 (L ++ [σ.nx]) V := by
      have b1 := st2.1
      obtain ⟨⟨c2, c3⟩, c4, c5, c6, c7, c8⟩ := st2.2
      have hd3 : Hd σ3 s V := b1.df g4 a4 (fun x q1 q2 q => by
        rcases q with q | q
        · omega
        · subst q
          by_cases h1 : x = 1
          · have kx := (h.2.2.1.2.1).resolve_right (fun z => z.2.2.2.2 h1)
            have k5 := kx.2.1
            rw [← h1] at k5
            obtain ⟨m1, m2, m3, m4, m5⟩ := h.1.1
            have : x = s ∨ x = s + 1 ∨ x = s + 2 ∨ x = s + 3 ∨ x = s + 4 := by omega
            rcases this with r | r | r | r | r <;> rw [r] at k5 <;> simp_all
          · have := h.E_hd h1
            omega)
      have q0 := a4.2.2 s (g4.lt st2.ks) (fun q => by
        rcases q with q | q
        · omega
        · by_cases h1 : E = 1
          · have kx := (h.2.2.1.2.1).resolve_right (fun z => z.2.2.2.2 h1)
            have k5 := kx.2.1
            rw [← h1, ← q] at k5
            rw [h.ks] at k5
            cases k5
          · have := h.E_hd h1
            omega)
      refine ⟨hd3, ⟨(q0.1 _).trans c2, (q0.1 _).trans c3⟩, a2, List.nodup_append.mpr ⟨c5, (by simp), fun x hx y hy => ?_⟩, fun b hb => ?_, by rw [hl3]; omega, fun p b hp hb => ?_⟩
      · rcases List.mem_singleton.mp hy with rfl
        exact fun z => nm (z ▸ hx)
      · rcases List.mem_append.mp hb with m | m
        · exact (c6 b m).df g4 a4 (pgs b m b ⟨Nat.le_refl _, by omega⟩)
        · rcases List.mem_singleton.mp m with rfl
          exact pn3.1
      · rw [List.getElem?_append_left (by omega)] at hb
        exact (c8 p b hp hb).df g4 a4 (fun x q1 q2 => pgs b (List.mem_of_getElem? hb) x ⟨q1, q2⟩)
    obtain ⟨σ', k1, k2, k3, k4⟩ := st3.take29 (l := l) a3 (by rw [hl3]; omega)
    refine ⟨σ', E3, L ++ [σ.nx], k1, k2, Oq.trans ⟨a3, ?_, fun x hx q => ?_, ?_, ?_, ?_⟩ k3, fun k x z => by rw [List.getElem?_append_left (get_lt z)]; exact z, fun i hi => by rw [k4 i hi, q0.1 i, (g5.2.2 s (hw.lt h.ks) (fun z => z)).1 i]⟩
    · exact (g5.mono (fun _ _ q => q.elim)).trans a4 (fun x _ q => dE x q)
    · rcases q with q | q | ⟨b, hb, q⟩
      · exact Or.inl q
      · rcases a5 with z | z
        · exact Or.inr (Or.inl (q.trans z))
        · omega
      · rcases List.mem_append.mp hb with m | m
        · exact Or.inr (Or.inr ⟨b, m, q⟩)
        · rcases List.mem_singleton.mp m with rfl
          unfold Ap at q
          omega
    · rcases a5 with z | z
      · exact Or.inl z
      · exact Or.inr (by omega)
    · unfold Pn
      rw [hl3]
      omega
    · unfold Pu
      rw [hl3]
      omega
end STs
