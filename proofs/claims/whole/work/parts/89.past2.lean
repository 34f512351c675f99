section CP2
variable {σ : Hp} {s o E E' : Nat} {L L' : List Nat} {V V0 : Vt}
theorem St.pnn (h : St σ s E L V) : 5 < 10 := by decide
/-- a state is copied into another -/
theorem c_copyFrom (h : St σ s E L V0) (g : St σ o E' L' V) (hw : Wn σ) (dis : ∀ x, Fp o E' L' x → ¬ Fp s E L x) (hl : V.T.length ≤ 16) (hU : V.U < 900) (hn : Pn σ E L ≤ NXc) (hu : Pu σ E L ≤ UXc) : ∃ σ' E1 L1, kX7_copyFrom σ s o = some σ' ∧ St σ' s E1 L1 V ∧ Oq s σ E L σ' E1 L1 ∧ (∀ i, i = 711 ∨ i = 712 → σ'.fi i s = σ.fi i s) := by
  have so : o + 4 < s ∨ s + 4 < o := by
    rcases Nat.lt_or_ge (o + 4) s with q | q
    · exact Or.inl q
    · rcases Nat.lt_or_ge (s + 4) o with z | z
      · exact Or.inr z
      · exfalso
        rcases Nat.lt_or_ge o s with y | y
        · exact dis s (Or.inl ⟨by omega, by omega⟩) (Or.inl ⟨by omega, by omega⟩)
        · exact dis o (Or.inl ⟨by omega, by omega⟩) (Or.inl ⟨by omega, by omega⟩)
  obtain ⟨σ1, g1, g2, g3, g4, g5, g6⟩ := c_copyHead h.1 g.1 hl so
  rw [g1]
  obtain ⟨a1, ⟨a2, a3⟩, a4, a5, a6, a7, a8⟩ := id h
  have w1 := g3.wn hw
  have st1 : St σ1 s E L (mkV V.W V.T V.M V.C 0 V0.R V.P) := by
    refine ⟨g2, ⟨g4, by rw [g5 710 (Or.inl rfl)]; exact a3⟩, a4.df hw g3.1 (fun q => by omega) (fun hE q => by have := h.E_hd hE; omega), a5, fun a ha => (a6 a ha).df hw g3.1 (fun q => by have := pg_hd (a6 a ha) a1 h.kl; omega), Nat.zero_le _, fun p a hp => absurd hp (Nat.not_lt_zero _)⟩
  have oq1 : Oq s σ E L σ1 E L := by
    refine ⟨w1, g3.1.mono (fun x _ q => Or.inl ⟨q.1, by omega⟩), fun _ _ q => q, Or.inl rfl, ?_, ?_⟩
    · unfold Pn; rw [g3.2.1, g3.2.2.2.2]; exact Nat.le_refl _
    · unfold Pu; rw [g3.2.2.1, g3.2.2.2.2]; exact Nat.le_refl _
  have lo := lp V.U (fun F i (q : Hp) => kX7_copyFrom_105 F s o (nI i) q) (fun i q => ∃ E1 L1, St q s E1 L1 (mkV V.W V.T V.M V.C i V0.R V.P) ∧ Oq s σ E L q E1 L1 ∧ (∀ j, j = 711 ∨ j = 712 → q.fi j s = σ.fi j s)) (fun r => ∃ σ' E1 L1, r = some σ' ∧ St σ' s E1 L1 V ∧ Oq s σ E L σ' E1 L1 ∧ (∀ j, j = 711 ∨ j = 712 → σ'.fi j s = σ.fi j s)) (fun F q J => ?_) (fun F i q hi J => Or.inl ?_) V.U 0 FU σ1 (FU_gt (by omega)) (by omega) ⟨E, L, st1, oq1, fun j hj => g5 j (Or.inr hj)⟩
  · exact lo
  · obtain ⟨E1, L1, j1, j2, j3⟩ := J
    have go : St q o E' L' V := g.df hw j2.2.1 dis
    show ∃ σ' E1 L1, kX7_copyFrom_105 (F + 1) s o (nI V.U) q = some σ' ∧ _
    rw [kX7_copyFrom_105.eq_2, go.u, bind_s, if_pos (nI_le (Nat.le_refl _) (by omega)), go.rt, bind_s, pfi_ok j1.ks, bind_s]
    obtain ⟨c1, ⟨c2, c3⟩, c4, c5, c6, c7, c8⟩ := id j1
    have ne : ∀ a ∈ L1, a ≠ s := fun a ha z => by
      have := pg_hd (c6 a ha) c1 j1.kl
      omega
    refine ⟨_, E1, L1, rfl, ⟨c1.si (Or.inr (Or.inl rfl)), ⟨by rw [fi_sfi, if_neg (by omega)]; exact c2, by rw [fi_sfi, if_pos ⟨rfl, rfl⟩]⟩, c4.si (by omega), c5, fun a ha => (c6 a ha).si, c7, fun p a hp ha => (c8 p a hp ha).si (ne a (List.mem_of_getElem? ha))⟩, j2.trans ⟨j2.1, Df.xi (Or.inl ⟨by omega, by omega⟩), fun _ _ q => q, Or.inl rfl, Nat.le_refl _, Nat.le_refl _⟩, fun j hj => by rw [fi_sfi, if_neg (by omega)]; exact j3 j hj⟩
  · obtain ⟨E1, L1, j1, j2, j3⟩ := J
    have go : St q o E' L' V := g.df hw j2.2.1 dis
    have n2 := j2.2.2.2.2.1
    have n3 := j2.2.2.2.2.2
    obtain ⟨q1, E2, L2, k1, k2, k3, k4, k5⟩ := j1.take (l := true) j2.1 (by show i < 900; omega) (by omega) (by omega)
    have k1 : kX7_takePage q s 1 = some (nI i, q1) := k1
    have oq2 := j2.trans k3
    have go1 : St q1 o E' L' V := g.df hw oq2.2.1 dis
    obtain ⟨a, ha1, ha2, ha3⟩ := k2.pg (show i < i + 1 by omega)
    obtain ⟨b, hb1, hb2, hb3⟩ := go1.pg hi
    have ha2 : PC q1 a (mkP true none []) := by
      have e : ((Vt.sU (mkV V.W V.T V.M V.C i V0.R V.P) (i + 1)).sP i (mkP true none [])).P i = mkP true none [] := sP_s
      rw [← e]; exact ha2
    have mb := List.mem_of_getElem? hb1
    have ma := List.mem_of_getElem? ha1
    have nab : a ≠ b := fun z => by
      have fb : Fp o E' L' b := Or.inr (Or.inr ⟨b, mb, Nat.le_refl _, by omega⟩)
      have fa : Fp s E2 L2 b := Or.inr (Or.inr ⟨a, ma, by rw [z]; exact Nat.le_refl _, by omega⟩)
      have lt := Fp.lt g hw fb
      exact dis b fb (oq2.2.2.1 b lt fa)
    have dab := pg_pg ha2.1 hb2.1 nab
    obtain ⟨q2, m1, m2, m3⟩ := c_copyPage hb2 ha2.1 dab
    show ∃ a', _ ∧ kX7_copyFrom_105 (F + 1) s o (nI i) q = _
    rw [kX7_copyFrom_105.eq_2, go.u, bind_s, if_neg (nI_ge hi (by omega)), j1.cs, k1, bd2_s, k2.cs, ha3, bind_s, go1.cs, hb3, bind_s, ckd_ok ha2.1.1, m1, bind_s, nI_1]
    have st2 := k2.upd k3.1 (p := i) (show i < i + 1 by omega) ha1 m3.1 m2
    have eqV : ((Vt.sU (mkV V.W V.T V.M V.C i V0.R V.P) (i + 1)).sP i (mkP true none [])).sP i (V.P i) = mkV V.W V.T V.M V.C (i + 1) V0.R V.P := by
      rw [sP_sP]
      have : (fun r => if r = i then V.P i else V.P r) = V.P := by
        funext r
        by_cases z : r = i
        · rw [if_pos z, z]
        · rw [if_neg z]
      exact congrArg (fun P => mkV V.W V.T V.M V.C (i + 1) V0.R P) this
    have st2 : St q2 s E2 L2 (((Vt.sU (mkV V.W V.T V.M V.C i V0.R V.P) (i + 1)).sP i (mkP true none [])).sP i (V.P i)) := st2
    rw [eqV] at st2
    refine ⟨q2, ⟨E2, L2, st2, oq2.trans (Oq.page k3.1 ma m3), fun j hj => ?_⟩, rfl⟩
    have da := pg_hd ha2.1 k2.1 k2.kl
    rw [(m3.1.2.2 s (k3.1.lt k2.ks) (fun z => by unfold Ap at z; omega)).1 j, k5 j (by omega)]
    exact j3 j hj
end CP2
