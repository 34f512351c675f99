section WITHINC
variable {σ0 : Hp} {V : Vt} {g : Gh} {E : Nat} {L : List Nat} {dq : Nat → Nat} {r : Nat}
theorem Stq.bd {fa stays : Bool} {most lim p : Nat} {e : Ent} {X X' : Xs} (h : Stq V dq fa stays most lim p e X X') : ∀ x ∈ X'.2.2.2.2, x ∈ X.2.2.2.2 ∨ ¬ byd fa (lmt dq stays most lim X.2.2.2.1) x.2.1 := by
  rcases h with ⟨-, rfl⟩ | ⟨-, ⟨-, -, d, -, rfl⟩ | ⟨-, -, rfl⟩ | ⟨-, nb, rfl⟩ | ⟨-, -, rfl⟩⟩
  · exact fun x hx => Or.inl hx
  · exact fun x hx => Or.inl hx
  · exact fun x hx => Or.inl hx
  · intro x hx
    rcases List.mem_append.mp hx with hx | hx
    · exact Or.inl hx
    · rw [List.mem_singleton.mp hx]; exact Or.inr nb
  · exact fun x hx => Or.inl hx
theorem Stq.sub {fa stays : Bool} {most lim p : Nat} {e : Ent} {X X' : Xs} (h : Stq V dq fa stays most lim p e X X') {x : Nat} (hx : x ∈ qpg X.2.2.2.2) : x ∈ qpg X'.2.2.2.2 := by
  rcases h.Q with q | ⟨-, -, q⟩
  · rw [q]; exact hx
  · rw [q]
    unfold qpg
    rw [List.map_append]
    exact List.mem_append_left _ hx
theorem WI.steps {most p : Nat} (w : Wf V g V.U) : ∀ (es : List Ent) (k : Nat) (pr : Nat → Nat) (X X' : Xs), es = (V.P p).es.drop k → k ≤ (V.P p).es.length → pr p = k → WI V dq r pr X → p ∈ qpg X.2.2.2.2 → (∀ x ∈ X.2.2.2.2, x.2.1 ≤ r) → Sts V dq false true most r p es X X' → ∃ pr', WI V dq r pr' X' ∧ pr' p = (V.P p).es.length ∧ (∀ q, q ≠ p → pr' q = pr q) ∧ (∀ x ∈ X'.2.2.2.2, x.2.1 ≤ r)
  | [], k, pr, X, X', he, hk, hp, h, hq, hb, s => by
    have s : X' = X := s
    have : (V.P p).es.length ≤ k := by
      have := congrArg List.length he
      rw [List.length_drop] at this
      simp at this
      omega
    rw [s]
    exact ⟨pr, h, by omega, fun _ _ => rfl, hb⟩
  | e :: es, k, pr, X, X', he, hk, hp, h, hq, hb, s => by
    obtain ⟨X1, s1, s2⟩ := s
    have kl : k < (V.P p).es.length := by
      by_cases z : k < (V.P p).es.length
      · exact z
      · rw [List.drop_eq_nil_of_le (by omega)] at he; cases he
    rw [List.drop_eq_getElem_cons kl] at he
    have he1 : (V.P p).es[pr p]? = some e := by rw [hp, List.getElem?_eq_getElem kl, (List.cons.inj he).1]
    have h1 := h.step w hq he1 s1
    obtain ⟨pr', g1, g2, g3, g4⟩ := WI.steps w es (k + 1) (pu pr p) X1 X' (List.cons.inj he).2 (by omega) (by rw [show pu pr p p = pr p + 1 from if_pos rfl, hp]) h1 (s1.sub hq) (fun x hx => by
      rcases s1.bd x hx with z | z
      · exact hb x z
      · by_cases y : x.2.1 ≤ r
        · exact y
        · exact absurd ⟨r, if_pos rfl, by rw [ba_f]; omega⟩ z) s2
    exact ⟨pr', g1, g2, fun q hq => (g3 q hq).trans (if_neg hq), g4⟩
theorem c_wloop (b0 : Sb0 V g E L dq false true 40 r) : ∀ (m F n : Nat) (σ : Hp) (X : Xs) (T : List Nat) (pr : Nat → Nat), m < F → n + m = V.U → T.length = n → CX σ0 V E L dq false true 40 r n T σ X → PI V g dq false T X → WI V dq r pr X → (∀ p ∈ T, pr p = (V.P p).es.length) → (∀ p, p ∉ T → pr p = 0) → (∀ x ∈ X.2.2.2.2, x.2.1 ≤ r) → ∃ σ' X' T' pr', kX6_run_168 F 29 (nI n) σ = some (nI (X'.2.2.2.1.take 40).length, σ') ∧ CX σ0 V E L dq false true 40 r X'.2.2.2.2.length T' σ' X' ∧ PI V g dq false T' X' ∧ WI V dq r pr' X' ∧ ∀ p ∈ qpg X'.2.2.2.2, pr' p = (V.P p).es.length
  | m, 0, _, _, _, _, _, h, _, _, _, _, _, _, _, _ => absurd h (Nat.not_lt_zero m)
  | m, F + 1, n, σ, X, T, pr, hF, hn, hT, cx, pi, wi, hpT, hp0, hb => by
    obtain ⟨hv, w, lo, hd, hm, hs, hl⟩ := id b0
    have u := w.u
    have ql := pi.1.len w
    obtain ⟨⟨st, tv, ⟨r', q, mo⟩, ck, sf, qc⟩, ⟨kv, n1, n2, n3⟩, ⟨cf, cl⟩, wv⟩ := id cx
    have cend : (gfi σ 16 613 29).bind (fun v3 => some (v3, σ)) = some (nI (X.2.2.2.1.take 40).length, σ) := by
      rw [ck.i, bind_s, cf.1]
    rcases c_next st lo ck w pi.1 wv with ⟨b1, b2⟩ | ⟨i, x, a, nx, hx, ha, a0, nxt⟩
    · -- nothing waits any more
      have tq : T.length = X.2.2.2.2.length := by
        have s1 := nd_sub T (qpg X.2.2.2.2) pi.2.2.2.1.1 pi.2.2.2.1.2
        have s2 := nd_sub (qpg X.2.2.2.2) T pi.1.1 (fun p hp => by
          obtain ⟨y, hy, rfl⟩ := List.mem_map.mp hp
          exact b1 y hy)
        unfold qpg at s1 s2
        rw [List.length_map] at s1 s2
        omega
      refine ⟨σ, X, T, pr, ?_, by rw [← tq, hT]; exact cx, pi, wi, fun p hp => ?_⟩
      · rw [kX6_run_168.eq_2, ck.s, bind_s, st.u, bind_s]
        by_cases z : V.U ≤ n
        · rw [if_pos (nI_le z (by omega)), cend]
        · rw [if_neg (nI_ge (by omega) (by omega)), ck.c, b2, bind_s, if_pos rfl, cend]
      · obtain ⟨y, hy, rfl⟩ := List.mem_map.mp hp
        exact hpT _ (b1 y hy)
    · obtain ⟨⟨y, hy, yT⟩, -⟩ := nx
      rw [hx] at hy
      cases hy
      have xm := List.mem_of_getElem? hx
      have xU := (pi.1.2 x xm).1
      have xb := hb x xm
      obtain ⟨pi2, gK, glf, gin⟩ := pi.go w hx yT
      have TU : T.length + 1 ≤ V.U := by
        have := nd_len V.U (x.1 :: T) pi2.2.2.2.1.1 (fun p hp => by
          rcases List.mem_cons.mp hp with rfl | hp
          · exact xU
          · obtain ⟨y, hy, rfl⟩ := List.mem_map.mp (pi.2.2.2.1.2 p hp)
            exact (pi.1.2 y hy).1)
        rwa [List.length_cons] at this
      have pca := st.2.2.2.2.2.2 x.1 a xU ha
      have l7 := pca.le
      have a29 : a ≠ 29 := by
        have := lo a (Or.inr (Or.inr ⟨a, List.mem_of_getElem? ha, Nat.le_refl _, Nat.le_add_right _ _⟩))
        omega
      have nb := (c_beyond (R := X.2.2.2.1) ck cf cl hd hm hs hl (b := x.2.1) (by omega)).2 (fun ⟨l, l1, l2⟩ => by
        have l1 : some r = some l := l1
        cases l1
        rw [ba_f] at l2
        omega)
      have cx2 := cx.go lo ha
      obtain ⟨s3, X3, g1, g2, g3⟩ := c_goInto b0 xU ha (V.P x.1).es.length FU 0 _ X (FU_gt (by omega)) (by omega) cx2 gK pi.2.1 (fun t ht => (pi.2.2.1 t ht).1.1) (by rw [List.drop_zero]; exact glf) (by rw [List.drop_zero]; exact gin)
      rw [List.drop_zero] at g2
      have pi3 := PI.steps w hd xU (List.mem_cons_self ..) 0 _ X X3 (List.drop_zero).symm pi2 (fun y e he => (gin y e he).1) g2
      obtain ⟨pr3, v1, v2, v3, v4⟩ := WI.steps w _ 0 pr X X3 (List.drop_zero).symm (Nat.zero_le _) (hp0 _ yT) wi (List.mem_map.mpr ⟨x, xm, rfl⟩) hb g2
      obtain ⟨σ', X', T', pr', k1, k2⟩ := c_wloop b0 (m - 1) F (n + 1) s3 X3 (x.1 :: T) pr3 (by omega) (by omega) (by rw [List.length_cons, hT]) g3 pi3 v1 (fun p hp => by
        by_cases z : p = x.1
        · rw [z]; exact v2
        · rw [v3 p z]
          exact hpT p ((List.mem_cons.mp hp).resolve_left z)) (fun p hp => by
        have z : p ≠ x.1 := fun y => hp (by rw [y]; exact List.mem_cons_self ..)
        rw [v3 p z]
        exact hp0 p (fun y => hp (List.mem_cons_of_mem _ y))) v4
      refine ⟨σ', X', T', pr', ?_, k2⟩
      have k0 : pfz σ 13 311 a 0 = some (sfi σ 311 a 0) := pfz_0 pca.1.1
      have ck8 : Ck (sfi σ 311 a 0) := ck
      have ck9 : Ck (sfi (sfi σ 311 a 0) 616 29 (nI (n + 1))) := ck
      have g1 : kX6_goInto (sfi (sfi σ 311 a 0) 616 29 (nI (n + 1))) 29 a = some s3 := g1
      rw [kX6_run_168.eq_2, ck.s, bind_s, st.u, bind_s, if_neg (nI_ge (by omega) (by omega)), ck.c, nxt, bind_s, if_neg a0, gfi_ok pca.1.1, bind_s, (wv.2.2 i x a hx ha).1, ck.c, nb, bind_s, if_pos rfl, k0, bind_s, ck8.i, bind_s, fi_sfi, if_neg (by omega), n3, ck8.pf, bind_s, nI_1, ck9.c, g1, bind_s]
      exact k1
end WITHINC
