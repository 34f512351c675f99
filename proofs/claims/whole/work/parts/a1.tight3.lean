section TIGHT3
variable {σ : Hp} {S : MS} {V : Vt} {π : Nat → Nat} {g : Gh} {E : Nat} {L : List Nat} {N U E8 : Nat} {O : List Nat}
theorem sk {P : Nat → Nat → Prop} (h : ∀ p, ∃ j, P p j) : ∃ f : Nat → Nat, ∀ p, P p (f p) := Classical.skolem.mp h
/-- tight, behind keep -/
theorem j_tighten (J : JC σ S E L V π g) (wl : Wl N U σ E L E8 O) : ∃ r σ' S' V1, kX10_tighten σ 27 = some (r, σ') ∧ r_tight_8 FU 0 0 S = some (r, S') ∧ Wk N U V1 σ E L E8 σ' ∧ RT (S'.1 0) V1 π ∧ Wf V1 g V1.U ∧ Sm V V1 ∧ Ry S S' := by
  obtain ⟨co, rt, hv, w, hg⟩ := J
  have u := w.u
  have lo := co.2.2.1.2.1
  obtain ⟨s', E', a1, a2, a3, a4, a5, a6, a7⟩ := c_renew w (π := π) co.1 co.2.2.1.1 wl
  have wk : Wk N U V σ E L E8 s' := ⟨E', _, a2, a3, a4, a6, a7⟩
  obtain ⟨lk', tv'⟩ := wk.lk co wl
  have flen : (fl V g π).length = V.U := by rw [fl_len]; exact ord_full w
  obtain ⟨ix, hix⟩ : ∃ f : Nat → Nat, ∀ p, p < V.U → ∃ t, (fl V g π)[f p]? = some t ∧ t.1 = p := by
    refine sk (P := fun p j => p < V.U → ∃ t, (fl V g π)[j]? = some t ∧ t.1 = p) (fun p => ?_)
    by_cases hp : p < V.U
    · obtain ⟨j, t, j1, j2⟩ := fl_at w (π := π) hp
      exact ⟨j, fun _ => ⟨t, j1, j2⟩⟩
    · exact ⟨0, fun h => absurd h hp⟩
  obtain ⟨pg, hpg⟩ : ∃ f : Nat → Nat, ∀ n, n < V.U → ∃ t, (fl V g π)[n]? = some t ∧ t.1 = f n := by
    refine sk (P := fun n p => n < V.U → ∃ t, (fl V g π)[n]? = some t ∧ t.1 = p) (fun n => ?_)
    by_cases hn : n < V.U
    · exact ⟨((fl V g π)[n]'(by omega)).1, fun _ => ⟨_, List.getElem?_eq_getElem (by omega), rfl⟩⟩
    · exact ⟨0, fun h => absurd h hn⟩
  have ndm := fl_nd w (π := π)
  have uni : ∀ (i j : Nat) (t x : It), (fl V g π)[i]? = some t → (fl V g π)[j]? = some x → t.1 = x.1 → i = j := fun i j t x h1 h2 h => nd_eq ndm (a := x.1) (by rw [List.getElem?_map, h1, ← h]; rfl) (by rw [List.getElem?_map, h2]; rfl)
  have inj : ∀ p q, p < V.U → q < V.U → ix p = ix q → p = q := fun p q hp hq h => by
    obtain ⟨t, t1, t2⟩ := hix p hp
    obtain ⟨x, x1, x2⟩ := hix q hq
    rw [h, x1] at t1
    cases t1
    rw [← t2, x2]
  have pgx : ∀ n, n < V.U → pg n < V.U ∧ ix (pg n) = n ∧ ∃ t, (fl V g π)[n]? = some t ∧ t.1 = pg n := fun n hn => by
    obtain ⟨t, t1, t2⟩ := hpg n hn
    have tU := (fl_itv w t (List.mem_of_getElem? t1)).1
    rw [t2] at tU
    obtain ⟨x, x1, x2⟩ := hix (pg n) tU
    exact ⟨tU, uni _ _ x t x1 t1 (by rw [x2, t2]), t, t1, t2⟩
  have e0 : Vd V g (Dx V ix 0 0) = V := Vd_0
  obtain ⟨s2, g1, g2⟩ := c_tt8 (σ0 := s') (N := N) (U := U) (E8 := E') (E := E) (L := L) lo hv w inj pgx V.U FU 0 s' (FU_gt (by omega)) (by omega) (by rw [e0]; exact ⟨a2, a4, a5.rg, tv', a3, Dm.rfl⟩)
  obtain ⟨ρ, hρ⟩ : ∃ f : Nat → Nat, ∀ q, q < V.U → f q < V.U ∧ π (f q) = q := by
    refine sk (P := fun q p => q < V.U → p < V.U ∧ π p = q) (fun q => ?_)
    by_cases hq : q < V.U
    · obtain ⟨p, p1, p2⟩ := rt.2.2.2.2.2 q hq
      exact ⟨p, fun _ => ⟨p1, p2⟩⟩
    · exact ⟨0, fun h => absurd h hq⟩
  have e1 : Vd V g (Dx V π 0 0) = V := Vd_0
  obtain ⟨S2, k1, k2, k3⟩ := r_tt8 (S0 := S) hv w rt.2.2.2.2.1 hρ (fun p hp => (rt.2.2.1 p hp).1) 784 FU 0 S (FU_gt (by omega)) (by omega) (by rw [e1]; exact rt) Ry.rfl
  have fin : ∀ (f : Nat → Nat), su (fun i => f (pg i)) V.U = su f V.U := fun f => (su_perm (f := f) (h := fun i => f (pg i)) (π := pg) (U := V.U) (fun p hp => (pgx p hp).1) (fun p q hp hq h => by
    have h1 := (pgx p hp).2.1
    have h2 := (pgx q hq).2.1
    rw [h] at h1
    omega) (fun q hq => by
    obtain ⟨t, t1, t2⟩ := hix q hq
    have il := (List.getElem?_eq_some_iff.mp t1).1
    refine ⟨ix q, by omega, ?_⟩
    obtain ⟨x, x1, x2⟩ := hpg (ix q) (by omega)
    rw [t1] at x1
    cases x1
    rw [← x2, t2]) (fun p hp => rfl)).symm
  have fin2 : ∀ (f : Nat → Nat), su (fun i => if i < V.U then f (ρ i) else 0) 784 = su f V.U := fun f => by
    rw [su_zero (U := V.U) (fun q hq => if_neg (by omega)) 784 (by omega)]
    refine su_perm (f := fun i => if i < V.U then f (ρ i) else 0) (h := f) (π := π) (fun p hp => (rt.2.2.1 p hp).1) rt.2.2.2.2.1 rt.2.2.2.2.2 (fun p hp => ?_)
    have p1 := (rt.2.2.1 p hp).1
    show (if π p < V.U then f (ρ (π p)) else 0) = f p
    rw [if_pos p1, rt.2.2.2.2.1 (ρ (π p)) p (hρ _ p1).1 hp (hρ _ p1).2]
  have z0 : ∀ f : Nat → Nat, su f 0 = 0 := fun _ => rfl
  rw [fin, fin, z0, z0, Int32.sub_self] at g1
  rw [fin2, fin2, z0, z0, Int32.sub_self] at k1
  have k1 : r_tight_8 FU 0 0 S = some (nI (su (ra V) V.U) - nI (su (rb V g) V.U), S2) := k1
  have g1 : kX10_tighten_8 FU 27 0 0 s' = some (nI (su (ra V) V.U) - nI (su (rb V g) V.U), s2) := g1
  have eV : Vd V g (Dx V ix V.U 0) = Vd V g (Dx V π 784 0) := by
    have : Dx V ix V.U 0 = Dx V π 784 0 := by
      funext q j
      unfold Dx
      apply decide_eq_decide.mpr
      constructor
      · rintro ⟨h1, h2⟩
        have := (rt.2.2.1 q h1).1
        exact ⟨h1, by omega⟩
      · rintro ⟨h1, h2⟩
        obtain ⟨t, t1, t2⟩ := hix q h1
        have il := (List.getElem?_eq_some_iff.mp t1).1
        exact ⟨h1, by omega⟩
    rw [this]
  obtain ⟨z1, z2, z3, z4, z5, z6⟩ := g2
  rw [eV] at z1
  refine ⟨nI (su (ra V) V.U) - nI (su (rb V g) V.U), s2, S2, Vd V g (Dx V π 784 0), ?_, k1, ⟨E', _, z1, z5, z2, a6.trans z6.1 (fun x _ q => Or.inl q), a7⟩, k2, Vd_wf hv w, Vd_sm, k3⟩
  unfold kX10_tighten
  rw [ckd_ok wl.1.1, a1, bind_s]
  exact g1
end TIGHT3
