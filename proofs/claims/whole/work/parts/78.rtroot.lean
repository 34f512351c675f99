section RTr
variable {S : MS} {V : Vt} {π : Nat → Nat} {g : Gh}
set_option maxHeartbeats 1000000 in
theorem RT.root (h : RT (S.1 0) V π) (hv : Vw V) (w : Wf V g V.R) (h2 : 2 ≤ (V.P V.R).es.length) : ∃ T, bd2 (r_newPage S 0) (fun v10 S11 => (r_insert S11 v10 0 0 0 0 (nI (π V.R))).bind (fun S12 => (wr S12 0 2 v10).bind (fun S13 => (r_split S13 (nI (π V.R)) v10 0 (-1)).bind (fun S14 => some S14)))) = some T ∧ (∃ π', RT (T.1 0) (sprV V) π') ∧ Rq S T ∧ T.1 4 = S.1 4 ∧ T.1 5 = S.1 5 := by
  obtain ⟨h1, hr, hpg, hfr, hin, hsu⟩ := id h
  have u780 := w.u
  have hp := w.1.1
  obtain ⟨a1, a2⟩ := hpg V.R hp
  obtain ⟨g1, k1, k2, k3⟩ := r_newPage_eq (S := S) (u := V.U) (lf := false) (by omega) (fun q hq => h.used hq) (hfr V.U (Nat.le_refl _) (by omega))
  have k1 : r_newPage S 0 = some (nI V.U, r0 S g1) := k1
  rw [k1, bd2_s]
  obtain ⟨g2, m1, m2, m3⟩ := r_insert_eq (S := r0 S g1) (q := V.U) (k := 0) (L := []) (lf := false) (e := (0, 0, 0, nI (π V.R))) (by rw [r0_0]; exact k2) (by omega) (Nat.le_refl _) (by show 0 < 7; omega)
  have m1 : r_insert (r0 S g1) (nI V.U) 0 0 0 0 (nI (π V.R)) = some (r0 (r0 S g1) g2) := m1
  rw [m1, bind_s, r0_r0, show (2 : Int32) = nI 2 from rfl, wr_r0 (by omega), bind_s, r0_0, r0_r0]
  rw [r0_0] at m3
  have cx : Cq (fun q => q = V.U) (S.1 0) g2 := fun x hx => (m3 x (hx V.U rfl)).trans (k3 x (hx V.U rfl))
  generalize hg3 : upd g2 2 (nI V.U) = g3
  have c3 : ∀ x, x ≠ 2 → g3 x = g2 x := fun x hx => by rw [← hg3]; exact upd_n hx
  have rpk : ∀ {q : Nat} {lf : Bool} {L : List Re}, RP g2 (94 + 30 * q) lf L → RP g3 (94 + 30 * q) lf L := fun {q lf L} hh => hh.keep (fun x q1 q2 => c3 x (by omega))
  have rw3 : RW g3 2 V := by
    have z := cx.rw hv h1
    obtain ⟨⟨b1, b2, b3⟩, b4, b5⟩ := z
    exact ⟨⟨by rw [c3 _ (by omega)]; exact b1, by rw [c3 _ (by omega)]; exact b2, by rw [c3 _ (by omega)]; exact b3⟩, fun t ht => by rw [c3 _ (by omega)]; exact b4 t ht, fun k e he => by rw [c3 _ (by omega), c3 _ (by omega), c3 _ (by omega)]; exact b5 k e he⟩
  have rpR : RP g3 (94 + 30 * π V.R) (V.P V.R).lf ((V.P V.R).es.map (reE V π (V.P V.R))) := rpk (cx.rp a2 (by omega))
  have rpU : RP g3 (94 + 30 * V.U) false [(0, 0, 0, nI (π V.R))] := rpk m2
  obtain ⟨T, t1, ⟨t2, t3⟩, ⟨t4, t5⟩, t6, t7, t8⟩ := r_split_eq (S := r0 S g3) (V := V) (a := π V.R) (b := V.U) (u := V.U + 1) (k := 0) (c := none) (by rw [r0_0]; exact rw3) hv (by rw [r0_0]; exact rpR) RT.lm (w.es hp) h2 (by omega) (by omega) (by omega) (by omega) (by omega) (by omega) (fun q hq => by
      rw [r0_0, c3 _ (by omega)]
      by_cases z : q = V.U
      · rw [z, m2.1.1]
        exact fun y => (nI_m1 (by show 1 < 2 ^ 31; omega)).mp y
      · rw [cx _ (fun r hr => by omega)]
        exact h.used (by omega)) (by
      rw [r0_0, c3 _ (by omega), cx _ (fun r hr => by omega)]
      exact hfr (V.U + 1) (by omega) (by omega)) (by rw [r0_0]; exact rpU) (by show 0 < 1; omega) (by show 1 < 7; omega) (fun x hx => by cases hx)
  have t1 : r_split (r0 S g3) (nI (π V.R)) (nI V.U) 0 (-1) = some T := t1
  rw [t1, bind_s]
  rw [r0_0] at t3
  rw [r0_j (by decide)] at t4 t5
  have q1 : Rq S T := ⟨(Rn.r0 (Or.inl rfl)).tr t2, fun x hx => by
    rw [t3 x (fun r hr => by omega), c3 x (by omega), cx x (fun r hr => by omega)]⟩
  refine ⟨T, rfl, ?_, q1, t4, t5⟩
  obtain ⟨π', pi1, pi2, pi3⟩ : ∃ π' : Nat → Nat, (∀ x, x < V.U → π' x = π x) ∧ π' V.U = V.U + 1 ∧ π' (V.U + 1) = V.U := ⟨fun x => if x = V.U then V.U + 1 else if x = V.U + 1 then V.U else π x, fun x hx => by show (if x = V.U then _ else _) = _; rw [if_neg (by omega), if_neg (by omega)], if_pos rfl, by show (if V.U + 1 = V.U then _ else _) = _; rw [if_neg (by omega), if_pos rfl]⟩
  refine ⟨π', ?_⟩
  obtain ⟨V', hV⟩ : ∃ V', V' = sprV V := ⟨_, rfl⟩
  have sm : Sm V V' := by rw [hV]; exact ⟨rfl, rfl, rfl, rfl⟩
  have eU : V'.U = V.U + 2 := by rw [hV]; rfl
  have eR : V'.R = V.U + 1 := by rw [hV]; rfl
  have P3 : V'.P (V.U + 1) = mkP false none [(tg (V.P V.R).es (bst V (V.P V.R).es).1, re1 V (V.P V.R), V.R), (tg (V.P V.R).es (bst V (V.P V.R).es).2.1, re2 V (V.P V.R), V.U)] := by rw [hV]; exact sP_s
  have P0 : ∀ r, r ≠ V.U + 1 → V'.P r = (spV V V.R).P r := fun r hr => by
    rw [hV]
    unfold sprV
    rw [sP_n hr]
    rfl
  have P1 : V'.P V.R = sp1 V (V.P V.R) := by rw [P0 _ (by omega)]; unfold spV; rw [sP_s]
  have P2 : V'.P V.U = sp2 V (V.P V.R) := by rw [P0 _ (by omega)]; unfold spV; rw [sP_n (by omega), sP_s]
  have P4 : ∀ r, r < V.U → r ≠ V.R → V'.P r = V.P r := fun r x1 x2 => by rw [P0 _ (by omega)]; unfold spV; rw [sP_n x2, sP_n (by omega)]; rfl
  rw [← hV]
  have bl : ∀ r, r < V.U → (V.P r).lf = false → ∀ e ∈ (V.P r).es, π' e.2.2 = π e.2.2 := fun r hr hl e he => pi1 _ (((w.2.1 r hr).2.1 e he).2.2.1 hl).1
  refine ⟨sm.rww (t3.rw hv rw3), ?_, fun r hr => ?_, fun r hr hr2 => ?_, fun r s hr hs e => ?_, fun r hr => ?_⟩
  · rw [eR, pi3, t3 2 (fun r _ => by omega), ← hg3]; exact upd_s
  · rw [eU] at hr ⊢
    by_cases z0 : r = V.U + 1
    · subst z0
      rw [pi3, P3]
      refine ⟨by omega, ?_⟩
      have x2 : ∀ (t rr b : Nat), reE V' π' (mkP false none [(tg (V.P V.R).es (bst V (V.P V.R).es).1, re1 V (V.P V.R), V.R), (tg (V.P V.R).es (bst V (V.P V.R).es).2.1, re2 V (V.P V.R), V.U)]) (t, rr, b) = (t, rr, 0, nI (π' b)) := fun t rr b => rfl
      show RP _ _ false ([(tg (V.P V.R).es (bst V (V.P V.R).es).1, re1 V (V.P V.R), V.R), (tg (V.P V.R).es (bst V (V.P V.R).es).2.1, re2 V (V.P V.R), V.U)].map _)
      rw [List.map_cons, List.map_cons, List.map_nil, x2, x2, pi2, pi1 _ hp]
      exact t8
    · by_cases z1 : r = V.U
      · subst z1
        rw [pi2, P2]
        refine ⟨by omega, ?_⟩
        rw [pik_mapc, List.map_map] at t7
        have : (pik (secB V (V.P V.R).es (bst V (V.P V.R).es).1 (bst V (V.P V.R).es).2.1) 0 (V.P V.R).es).map (wset V (tg (V.P V.R).es (bst V (V.P V.R).es).2.1) ∘ reE V π (V.P V.R)) = (sp2 V (V.P V.R)).es.map (reE V' π' (sp2 V (V.P V.R))) := List.map_congr_left (fun e he => (reE_c (π' := π') (X := sp2 V (V.P V.R)) sm rfl rfl (fun z => bl _ hp z e (pik_memes he))).symm)
        rw [this] at t7
        exact t7
      · have hr : r < V.U := by omega
        rw [pi1 r hr]
        have hpr := (hpg r hr).1
        refine ⟨by omega, ?_⟩
        by_cases z2 : r = V.R
        · rw [z2, P1]
          rw [pik_mapc, List.map_map] at t6
          have : (pik (fun k => !secB V (V.P V.R).es (bst V (V.P V.R).es).1 (bst V (V.P V.R).es).2.1 k) 0 (V.P V.R).es).map (wset V (tg (V.P V.R).es (bst V (V.P V.R).es).1) ∘ reE V π (V.P V.R)) = (sp1 V (V.P V.R)).es.map (reE V' π' (sp1 V (V.P V.R))) := List.map_congr_left (fun e he => (reE_c (π' := π') (X := sp1 V (V.P V.R)) sm rfl rfl (fun z => bl _ hp z e (pik_memes he))).symm)
          rw [this] at t6
          exact t6
        · rw [P4 r hr z2]
          have e2 : (V.P r).es.map (reE V' π' (V.P r)) = (V.P r).es.map (reE V π (V.P r)) := List.map_congr_left (fun e he => reE_s sm rfl rfl (fun z => bl r hr z e he))
          rw [e2]
          refine t3.rp (rpk (cx.rp (hpg r hr).2 (by omega))) (fun y => ?_)
          rcases y with y | y | y
          · exact z2 (hin r _ hr hp y)
          · omega
          · omega
  · rw [eU] at hr
    rw [t3 (94 + 30 * r) (fun s hs => by omega), c3 _ (by omega), cx _ (fun s hs => by omega)]
    exact hfr r (by omega) hr2
  · rw [eU] at hr hs
    have k : ∀ x, x < V.U + 2 → (x < V.U ∧ π' x < V.U) ∨ (x = V.U ∧ π' x = V.U + 1) ∨ (x = V.U + 1 ∧ π' x = V.U) := fun x hx => by
      by_cases y1 : x = V.U
      · exact Or.inr (Or.inl ⟨y1, by rw [y1]; exact pi2⟩)
      · by_cases y2 : x = V.U + 1
        · exact Or.inr (Or.inr ⟨y2, by rw [y2]; exact pi3⟩)
        · exact Or.inl ⟨by omega, by rw [pi1 x (by omega)]; exact (hpg x (by omega)).1⟩
    have k1 := k r hr
    have k2 := k s hs
    by_cases z : r < V.U ∧ s < V.U
    · rw [pi1 r z.1, pi1 s z.2] at e
      exact hin r s z.1 z.2 e
    · omega
  · rw [eU] at hr ⊢
    by_cases z1 : r = V.U
    · exact ⟨V.U + 1, by omega, by rw [pi3, z1]⟩
    · by_cases z2 : r = V.U + 1
      · exact ⟨V.U, by omega, by rw [pi2, z2]⟩
      · obtain ⟨s, h1, h2⟩ := hsu r (by omega)
        exact ⟨s, by omega, by rw [pi1 s h1]; exact h2⟩
end RTr
-- both trees go on together
def Rd (x : Nat) : Prop := x = 0 ∨ x = 2 ∨ x = 3 ∨ x = 4 ∨ x = 5 ∨ x = 6 ∨ x = 7
/-- what an insertion leaves behind, on both sides -/
def Po (σ : Hp) (S : MS) (E : Nat) (L : List Nat) (V : Vt) (σ' : Hp) (S' : MS) (X : Nat → Bool) : Prop := ∃ E' L' V' π' g', Ts σ' E' L' V' ∧ RT (S'.1 0) V' π' ∧ Wf V' g' V'.U ∧ Tq σ E L σ' E' L' ∧ Rn Rd Rb S S' ∧ (∀ x, (x < 94 ∧ x ≠ 2) ∨ 23614 ≤ x → S'.1 0 x = S.1 0 x) ∧ Sm V V' ∧ ∀ t, (g'.lo t).isSome = X t
/-- a way down -/
def Pa (V : Vt) (pp pe : Nat → Nat) (n p : Nat) : Prop := pp n = p ∧ pp 0 = V.R ∧ ∀ m, m < n → pp m < V.U ∧ (V.P (pp m)).lf = false ∧ ∃ e, (V.P (pp m)).es[pe m]? = some e ∧ e.2.2 = pp (m + 1)
def Pw (σ : Hp) (S : MS) (π : Nat → Nat) (pp pe : Nat → Nat) (n : Nat) : Prop := ∀ m, m < n → σ.ar 24 m = nI (pp m) ∧ σ.ar 25 m = nI (pe m) ∧ S.1 4 m = nI (π (pp m)) ∧ S.1 5 m = nI (pe m)
section UP
variable {V : Vt} {g : Gh} {o : Nat}
theorem Pa.ht {pp pe : Nat → Nat} {n p : Nat} (h : Pa V pp pe n p) (w : Wf V g o) : ∀ d, d ≤ n → g.ht (pp (n - d)) = g.ht p + d
  | 0, _ => by rw [Nat.sub_zero, h.1, Nat.add_zero]
  | d + 1, hd => by
    have ih := h.ht w d (by omega)
    obtain ⟨a1, a2, e, a3, a4⟩ := h.2.2 (n - (d + 1)) (by omega)
    have k := (((w.2.1 _ a1).2.1 e (List.mem_of_getElem? a3)).2.2.1 a2).2.1
    rw [a4, show n - (d + 1) + 1 = n - d by omega, ih] at k
    omega
theorem Wf.ok (h : Wf V g o) (hl : o < V.U → (V.P o).es.length ≤ V.C) : Wf V g V.U := by
  refine ⟨h.1, fun p hp => ?_, h.2.2⟩
  obtain ⟨⟨a1, a2, a3⟩, a4⟩ := h.2.1 p hp
  refine ⟨⟨a1, ?_, a3⟩, a4⟩
  rw [if_neg (by omega)]
  by_cases z : p = o
  · rw [z] at hp ⊢
    exact hl hp
  · rw [if_neg z] at a2; exact a2
set_option maxHeartbeats 1000000 in
theorem j_up : ∀ (n : Nat) (pp pe : Nat → Nat) (σ : Hp) (S : MS) (E : Nat) (L : List Nat) (V : Vt) (π : Nat → Nat) (g : Gh) (p a F F' : Nat), n < F → n < F' → Ts σ E L V → RT (S.1 0) V π → Vw V → Wf V g p → p < V.U → L[p]? = some a → Sk g (g.ht p) → Pa V pp pe n p → Pw σ S π pp pe n → ∃ σ' S', kX9_insert_156 F 23 (nI p) a (nI n - 1) σ = some σ' ∧ r_putNow_144 F' (nI (π p)) (nI n) S = some S' ∧ Po σ S E L V σ' S' (fun t => (g.lo t).isSome) := by
  intro n
  induction n with
  | zero =>
    intro pp pe σ S E L V π g p a F F' hF hF' ts rt hv w hp ha sk pa pw
    obtain ⟨F, rfl⟩ : ∃ F0, F = F0 + 1 := ⟨F - 1, by omega⟩
    obtain ⟨F', rfl⟩ : ∃ F0, F' = F0 + 1 := ⟨F' - 1, by omega⟩
    have pR : p = V.R := pa.1.symm.trans pa.2.1
    have pc := ts.1.2.2.2.2.2.2 p a hp ha
    have l7 := pc.le
    have hC := hv.2.2.1
    have u780 := w.u
    obtain ⟨p1, p2⟩ := rt.2.2.1 p hp
    have c4 : rd S 0 4 = some (nI V.C) := by
      rw [show (4 : Int32) = nI 4 from rfl, rd_r0 (by omega)]
      exact congrArg some rt.1.1.2.1
    rw [kX9_insert_156.eq_2, if_pos (show nI 0 - 1 < 0 by decide), r_putNow_144.eq_2, p2.n (by omega), bind_s, c4, bind_s, List.length_map]
    by_cases ov : V.C < (V.P p).es.length
    · rw [if_neg (nI_ge ov (by omega)), if_pos (show nI 0 = 0 from rfl)]
      subst pR
      obtain ⟨σ', E', L', k1, k2, k3⟩ := c_root260 ts hv hp ha (w.es hp) ov (by omega)
      obtain ⟨T, m1, ⟨π', m2⟩, m3, m4, m5⟩ := rt.root hv w (by omega)
      obtain ⟨g', w2, w3⟩ := w.sroot hv (by omega) sk
      exact ⟨σ', T, k1, m1, E', L', sprV V, π', g', k2, m2, w2, k3, m3.1.mono (fun x q => by unfold Ra at q; unfold Rd; omega) (fun x q => q), m3.2, ⟨rfl, rfl, rfl, rfl⟩, w3⟩
    · rw [if_pos (nI_le (by omega) (by omega))]
      unfold kX9_insert_260
      rw [pc.n, bind_s, ts.2.1.st, bind_s, ts.1.cp, bind_s, if_pos (nI_le (by omega) (by omega))]
      exact ⟨σ, S, rfl, rfl, E, L, V, π, g, ts, rt, w.ok (fun _ => by omega), Tq.rfl, Rn.rfl, fun _ _ => rfl, Sm.rfl, fun _ => rfl⟩
  | succ n ih =>
    intro pp pe σ S E L V π g p a F F' hF hF' ts rt hv w hp ha sk pa pw
    obtain ⟨F, rfl⟩ : ∃ F0, F = F0 + 1 := ⟨F - 1, by omega⟩
    obtain ⟨F', rfl⟩ : ∃ F0, F' = F0 + 1 := ⟨F' - 1, by omega⟩
    have pc := ts.1.2.2.2.2.2.2 p a hp ha
    have l7 := pc.le
    have hC := hv.2.2.1
    have u780 := w.u
    obtain ⟨p1, p2⟩ := rt.2.2.1 p hp
    have c4 : rd S 0 4 = some (nI V.C) := by
      rw [show (4 : Int32) = nI 4 from rfl, rd_r0 (by omega)]
      exact congrArg some rt.1.1.2.1
    have s1 : nI (n + 1) - 1 = nI n := by rw [show (1 : Int32) = nI 1 from rfl, pk_sub (by omega)]; rfl
    have hn38 : n + 1 ≤ 38 := by
      have := pa.ht w (n + 1) (Nat.le_refl _)
      rw [Nat.sub_self, pa.2.1] at this
      have := w.hr
      omega
    by_cases ov : V.C < (V.P p).es.length
    · obtain ⟨a1, a2, e, a3, a4⟩ := pa.2.2 n (by omega)
      rw [pa.1] at a4
      generalize hq : pp n = q at *
      have hk := get_lt a3
      have em := List.mem_of_getElem? a3
      have eq := ((w.2.1 q a1).2.1 e em).2.2.1 a2
      rw [a4] at eq
      have qp : q ≠ p := fun z => by rw [z] at eq; omega
      have lq : (V.P q).es.length ≤ V.C := by
        have := (w.2.1 q a1).1.2.1
        rw [if_neg qp] at this
        exact this
      obtain ⟨b, hb, -⟩ := ts.1.pg a1
      obtain ⟨r24, r25, r4, r5⟩ := pw n (by omega)
      rw [hq] at r24 r4
      rw [s1]
      obtain ⟨σ1, E1, L1, k1, k2, k3, k4, k5⟩ := c_up156 (F := F) ts hv hp ha a1 hb qp (w.es hp) ov hk (by omega) a2 r24 r25 (by omega) (by omega)
      rw [k1]
      obtain ⟨T, m1, ⟨π', m2, m2'⟩, m3, m4, m5⟩ := rt.split hv w hp (by omega) a1 qp a2 a3 (by omega)
      obtain ⟨g', w2, w3, w4, w5, w6⟩ := w.split hv hp (by omega) eq.2.2.2.2 sk eq.2.2.2.1 a3 a4
      obtain ⟨V', hV⟩ : ∃ V', V' = splV V p q (pe n) := ⟨_, rfl⟩
      have sm : Sm V V' := by rw [hV]; exact ⟨rfl, rfl, rfl, rfl⟩
      have eU : V'.U = V.U + 1 := by rw [hV]; rfl
      have eR : V'.R = V.R := by rw [hV]; rfl
      have P4 : ∀ r, r < V.U → r ≠ p → r ≠ q → V'.P r = V.P r := fun r x1 x2 x3 => by rw [hV]; unfold splV spV; rw [sP_n x3, sP_n x2, sP_n (by omega)]; rfl
      rw [← hV] at k2 m2 w2
      have pa' : Pa V' pp pe n q := by
        refine ⟨hq, by rw [eR]; exact pa.2.1, fun m hm => ?_⟩
        obtain ⟨c1, c2, e', c3, c4⟩ := pa.2.2 m (by omega)
        have x1 := pa.ht w (n + 1 - m) (by omega)
        rw [show n + 1 - (n + 1 - m) = m by omega] at x1
        have np : pp m ≠ p := fun z => by rw [z] at x1; omega
        have nq : pp m ≠ q := fun z => by rw [z] at x1; omega
        rw [P4 _ c1 np nq, eU]
        exact ⟨by omega, c2, e', c3, c4⟩
      have pw' : Pw σ1 T π' pp pe n := fun m hm => by
        obtain ⟨x1, x2, x3, x4⟩ := pw m (by omega)
        rw [k4, k5, m4, m5, m2' _ (pa.2.2 m (by omega)).1]
        exact ⟨x1, x2, x3, x4⟩
      obtain ⟨σ2, S2, y1, y2, y3⟩ := ih pp pe σ1 T E1 L1 V' π' g' q b F F' (by omega) (by omega) k2 m2 (sm.vw hv) w2 (by omega) (k3.2.2.1 q b hb) w3 pa' pw'
      have s2 : nI n + (-1) = nI n - 1 := (Int32.sub_eq_add_neg (nI n) 1).symm
      rw [s2, y1]
      refine ⟨σ2, S2, rfl, ?_, ?_⟩
      · rw [r_putNow_144.eq_2, p2.n (by omega), bind_s, c4, bind_s, List.length_map, if_neg (nI_ge ov (by omega)), if_neg (nI_ne0 (by omega) (by omega)), nI_dec (by omega), Nat.add_sub_cancel, rd_ok (show n < m_len 4 by rw [len4]; omega) (by omega), bind_s, rd_ok (show n < m_len 5 by rw [len5]; omega) (by omega), bind_s, r4, r5]
        have nxt : r_putNow_244 (r_putNow_144 F') (nI n) (nI (π p)) (nI (π q)) (nI (pe n)) (o2i (V.P q).ce) S = some S2 := by
          unfold r_putNow_244
          rw [m1, bind_s, rd_ok (show n < m_len 4 by rw [len4]; omega) (by omega), bind_s, m4, r4]
          rw [m2' q a1] at y2
          exact y2
        by_cases z : n = 0
        · subst z
          rw [if_pos (show nI 0 = 0 from rfl)]
          have : (V.P q).ce = none := by rw [← hq, pa.2.1]; exact w.1.2
          rw [this] at nxt
          exact nxt
        · obtain ⟨m, rfl⟩ : ∃ m, n = m + 1 := ⟨n - 1, by omega⟩
          obtain ⟨c1, c2, e', c3, c4'⟩ := pa.2.2 m (by omega)
          obtain ⟨-, -, u4, u5⟩ := pw m (by omega)
          obtain ⟨v1, v2⟩ := rt.2.2.1 _ c1
          have s3 : nI (m + 1) - 1 = nI m := by rw [show (1 : Int32) = nI 1 from rfl, pk_sub (by omega)]; rfl
          have cq : (V.P q).ce = some e'.1 := by
            have := (((w.2.1 _ c1).2.1 e' (List.mem_of_getElem? c3)).2.2.1 c2).2.2.1
            rw [c4', hq] at this
            exact this
          rw [if_neg (nI_ne0 (by omega) (by omega)), s3, rd_ok (show m < m_len 4 by rw [len4]; omega) (by omega), bind_s, rd_ok (show m < m_len 5 by rw [len5]; omega) (by omega), bind_s, u4, u5, v2.e0 (by omega) (e := reE V π (V.P (pp m)) e') (by rw [List.getElem?_map, c3]; rfl), bind_s]
          rw [cq] at nxt
          exact nxt
      · obtain ⟨E', L', V2, π2, g2, z1, z2, z3, z4, z5, z6, z7, z8⟩ := y3
        exact ⟨E', L', V2, π2, g2, z1, z2, z3, k3.tr z4, (m3.1.mono (fun x q => by unfold Ra at q; unfold Rd; omega) (fun x q => q)).tr z5, fun x hx => (z6 x hx).trans (m3.2 x hx), sm.tr z7, fun t => (z8 t).trans (w6 t)⟩
    · have stop : kX9_insert_156 (F + 1) 23 (nI p) a (nI (n + 1) - 1) σ = some σ := by
        have c260 : kX9_insert_260 23 (nI p) a σ = some σ := by
          unfold kX9_insert_260
          rw [pc.n, bind_s, ts.2.1.st, bind_s, ts.1.cp, bind_s, if_pos (nI_le (by omega) (by omega))]
        rw [s1, kX9_insert_156.eq_2, if_neg (nI_pos (by omega)), pc.n, bind_s, ts.2.1.st, bind_s, ts.1.cp, bind_s, if_pos (nI_le (by omega) (by omega)), c260]
      rw [stop, r_putNow_144.eq_2, p2.n (by omega), bind_s, c4, bind_s, List.length_map, if_pos (nI_le (by omega) (by omega))]
      exact ⟨σ, S, rfl, rfl, E, L, V, π, g, ts, rt, w.ok (fun _ => by omega), Tq.rfl, Rn.rfl, fun _ _ => rfl, Sm.rfl, fun _ => rfl⟩
end UP
