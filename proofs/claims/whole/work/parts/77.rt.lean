-- the reference's tree
def reE (V : Vt) (π : Nat → Nat) (p : Pg) (e : Ent) : Re := (e.1, e.2.1, wy V p e.1, if p.lf = true then -1 else nI (π e.2.2))
def RT (f : Nat → Int32) (V : Vt) (π : Nat → Nat) : Prop := RW f 2 V ∧ f 2 = nI (π V.R) ∧ (∀ p, p < V.U → π p < V.U ∧ RP f (94 + 30 * π p) (V.P p).lf ((V.P p).es.map (reE V π (V.P p)))) ∧ (∀ p, V.U ≤ p → p < 784 → f (94 + 30 * p) = -1) ∧ (∀ p q, p < V.U → q < V.U → π p = π q → p = q) ∧ (∀ q, q < V.U → ∃ p, p < V.U ∧ π p = q)
theorem wy_cw {V : Vt} {p : Pg} {t : Nat} : wy V p t = cw V p.ce t := by
  unfold wy cw
  cases p.ce <;> rfl
theorem pik_mapc {α β : Type} {f : Nat → Bool} {h : α → β} : ∀ {l : List α} {n : Nat}, pik f n (l.map h) = (pik f n l).map h
  | [], _ => rfl
  | x :: l, n => by
    rw [List.map_cons]
    unfold pik
    rw [pik_mapc (l := l)]
    split <;> rfl
/-- states whose words, told and measure are the same -/
def Sm (V V' : Vt) : Prop := V'.W = V.W ∧ V'.T = V.T ∧ V'.M = V.M ∧ V'.C = V.C
theorem Sm.rfl {V : Vt} : Sm V V := ⟨Eq.refl _, Eq.refl _, Eq.refl _, Eq.refl _⟩
theorem Sm.tr {V V' V'' : Vt} (h : Sm V V') (g : Sm V' V'') : Sm V V'' := ⟨g.1.trans h.1, g.2.1.trans h.2.1, g.2.2.1.trans h.2.2.1, g.2.2.2.trans h.2.2.2⟩
theorem Sm.fa {V V' : Vt} (h : Sm V V') (a b : Nat) : far V' a b = far V a b := by
  unfold far
  rw [h.1, h.2.1, h.2.2.1]
theorem Sm.hh {V V' : Vt} (h : Sm V V') (a : Nat) : hs V' a ↔ hs V a := by
  unfold hs
  rw [h.1]
theorem Sm.vw {V V' : Vt} (h : Sm V V') (hv : Vw V) : Vw V' := by
  unfold Vw at *
  rw [h.1, h.2.1, h.2.2.1, h.2.2.2]
  refine ⟨hv.1, hv.2.1, hv.2.2.1, hv.2.2.2.1, fun e he => ?_, hv.2.2.2.2.2⟩
  have := hv.2.2.2.2.1 e he
  exact ⟨(h.hh _).mpr this.1, (h.hh _).mpr this.2.1, this.2.2⟩
theorem Sm.rww {V V' : Vt} (h : Sm V V') {f : Nat → Int32} (hr : RW f 2 V) : RW f 2 V' := by
  unfold RW at *
  rw [h.1, h.2.1, h.2.2.1, h.2.2.2]
  exact hr
theorem Sm.tv {V V' : Vt} (h : Sm V V') {σ : Hp} (ht : Tv σ V) : Tv σ V' := ht.cg h.1 h.2.1 h.2.2.1
theorem Sm.cx {V V' : Vt} (h : Sm V V') (c : Option Nat) (t : Nat) : cw V' c t = cw V c t := by
  cases c with
  | none => rfl
  | some x => exact h.fa x t
theorem Sm.sy {V V' : Vt} (h : Sm V V') : Sm V' V := ⟨h.1.symm, h.2.1.symm, h.2.2.1.symm, h.2.2.2.symm⟩
section RTs
variable {S : MS} {V : Vt} {π : Nat → Nat} {g : Gh} {o : Nat}
theorem RT.lm {p : Pg} : Lm p.es (p.es.map (reE V π p)) := ⟨List.length_map _, fun k e he => ⟨_, _, by rw [List.getElem?_map, he]; rfl⟩⟩
theorem Wf.ce (h : Wf V g o) {q x : Nat} (hq : q < V.U) (hx : (V.P q).ce = some x) : hs V x := by
  by_cases z : q = V.R
  · rw [z, h.1.2] at hx
    cases hx
  · obtain ⟨c1, c2, e, c3, c4⟩ := (h.2.1 q hq).2.2.2.2 z
    have := (h.2.1 _ c1).2.1 e c3
    have k := (this.2.2.1 c2).2.2.1
    rw [c4, hx] at k
    cases k
    exact this.1
theorem reE_c {V V' : Vt} {π π' : Nat → Nat} {P X : Pg} {one : Nat} {e : Ent} (sm : Sm V V') (hl : X.lf = P.lf) (hc : X.ce = some one) (hb : P.lf = false → π' e.2.2 = π e.2.2) : reE V' π' X e = wset V one (reE V π P e) := by
  unfold reE wset
  rw [wy_cw, hc, hl]
  show (e.1, e.2.1, far V' one e.1, _) = (e.1, e.2.1, far V one e.1, _)
  rw [sm.fa]
  cases z : P.lf with
  | true => rfl
  | false => rw [hb z]
theorem reE_s {V V' : Vt} {π π' : Nat → Nat} {P X : Pg} {e : Ent} (sm : Sm V V') (hl : X.lf = P.lf) (hc : X.ce = P.ce) (hb : P.lf = false → π' e.2.2 = π e.2.2) : reE V' π' X e = reE V π P e := by
  unfold reE
  rw [wy_cw, wy_cw, hc, hl, sm.cx]
  cases z : P.lf with
  | true => rfl
  | false => rw [hb z]
/-- a change of the reference's tree -/
def Rq (S T : MS) : Prop := Rn Ra Rb S T ∧ ∀ x, (x < 94 ∧ x ≠ 2) ∨ 23614 ≤ x → T.1 0 x = S.1 0 x
theorem Rq.tr {S T U : MS} (h : Rq S T) (k : Rq T U) : Rq S U := ⟨h.1.tr k.1, fun x hx => (k.2 x hx).trans (h.2 x hx)⟩
theorem Rq.rfl {S : MS} : Rq S S := ⟨Rn.rfl, fun _ _ => Eq.refl _⟩
theorem RT.used (h : RT (S.1 0) V π) {q : Nat} (hq : q < V.U) : S.1 0 (94 + 30 * q) ≠ -1 := by
  obtain ⟨p, h1, h2⟩ := h.2.2.2.2.2 q hq
  have := (h.2.2.1 p h1).2
  rw [h2] at this
  rw [this.1.1]
  have l7 := this.2.2
  exact fun y => (nI_m1 (by omega)).mp y
theorem pik_memes {f : Nat → Bool} {es : List Ent} {e : Ent} (h : e ∈ pik f 0 es) : e ∈ es := (pik_sub _ _).subset h
set_option maxHeartbeats 1000000 in
theorem RT.split (h : RT (S.1 0) V π) (hv : Vw V) {p q k : Nat} {e : Ent} (w : Wf V g p) (hp : p < V.U) (h2 : 2 ≤ (V.P p).es.length) (hq : q < V.U) (hqp : q ≠ p) (hlq : (V.P q).lf = false) (he : (V.P q).es[k]? = some e) (h7 : (V.P q).es.length < 7) : ∃ T, r_split S (nI (π p)) (nI (π q)) (nI k) (o2i (V.P q).ce) = some T ∧ (∃ π', RT (T.1 0) (splV V p q k) π' ∧ ∀ x, x < V.U → π' x = π x) ∧ Rq S T ∧ T.1 4 = S.1 4 ∧ T.1 5 = S.1 5 := by
  obtain ⟨h1, hr, hpg, hfr, hin, hsu⟩ := id h
  have u780 := w.u
  obtain ⟨a1, a2⟩ := hpg p hp
  obtain ⟨b1, b2⟩ := hpg q hq
  have nab : π p ≠ π q := fun z => hqp (hin p q hp hq z).symm
  rw [hlq] at b2
  obtain ⟨T, t1, ⟨t2, t3⟩, ⟨t4, t5⟩, t6, t7, t8⟩ := r_split_eq (u := V.U) (k := k) (c := (V.P q).ce) h1 hv a2 RT.lm (w.es hp) h2 (by omega) (by omega) (by omega) nab (by omega) (by omega) (fun q hq => h.used hq) (hfr V.U (Nat.le_refl _) (by omega)) b2 (by rw [List.length_map]; exact get_lt he) (by rw [List.length_map]; exact h7) (fun x hx => w.ce hq hx)
  refine ⟨T, t1, ?_, ⟨t2, fun x hx => t3 x (fun r hr => by omega)⟩, t4, t5⟩
  obtain ⟨π', pi1, pi2⟩ : ∃ π' : Nat → Nat, (∀ x, x < V.U → π' x = π x) ∧ π' V.U = V.U := ⟨fun x => if x = V.U then V.U else π x, fun x hx => if_neg (by omega), if_pos rfl⟩
  refine ⟨π', ?_, pi1⟩
  obtain ⟨V', hV⟩ : ∃ V', V' = splV V p q k := ⟨_, rfl⟩
  have sm : Sm V V' := by rw [hV]; exact ⟨rfl, rfl, rfl, rfl⟩
  have eU : V'.U = V.U + 1 := by rw [hV]; rfl
  have eR : V'.R = V.R := by rw [hV]; rfl
  have P3 : V'.P q = spQ V p q k := by rw [hV]; exact sP_s
  have P1 : V'.P p = sp1 V (V.P p) := by rw [hV]; unfold splV spV; rw [sP_n (fun z => hqp z.symm), sP_s]
  have P2 : V'.P V.U = sp2 V (V.P p) := by rw [hV]; unfold splV spV; rw [sP_n (by omega), sP_n (by omega), sP_s]
  have P4 : ∀ r, r < V.U → r ≠ p → r ≠ q → V'.P r = V.P r := fun r x1 x2 x3 => by rw [hV]; unfold splV spV; rw [sP_n x3, sP_n x2, sP_n (by omega)]; rfl
  rw [← hV]
  have bl : ∀ r, r < V.U → (V.P r).lf = false → ∀ e ∈ (V.P r).es, π' e.2.2 = π e.2.2 := fun r hr hl e he => pi1 _ (((w.2.1 r hr).2.1 e he).2.2.1 hl).1
  refine ⟨sm.rww (t3.rw hv h1), ?_, fun r hr => ?_, fun r hr hr2 => ?_, fun r s hr hs e => ?_, fun r hr => ?_⟩
  · rw [eR, pi1 _ w.1.1, t3 2 (fun r _ => by omega)]; exact hr
  · rw [eU] at hr ⊢
    by_cases z1 : r = V.U
    · subst z1
      rw [pi2, P2]
      refine ⟨by omega, ?_⟩
      rw [pik_mapc, List.map_map] at t7
      have : (pik (secB V (V.P p).es (bst V (V.P p).es).1 (bst V (V.P p).es).2.1) 0 (V.P p).es).map (wset V (tg (V.P p).es (bst V (V.P p).es).2.1) ∘ reE V π (V.P p)) = (sp2 V (V.P p)).es.map (reE V' π' (sp2 V (V.P p))) := List.map_congr_left (fun e he => (reE_c (π' := π') (X := sp2 V (V.P p)) sm rfl rfl (fun z => bl p hp z e (pik_memes he))).symm)
      rw [this] at t7
      exact t7
    · have hr : r < V.U := by omega
      rw [pi1 r hr]
      have hpr := (hpg r hr).1
      refine ⟨by omega, ?_⟩
      by_cases z2 : r = p
      · subst z2
        rw [P1]
        rw [pik_mapc, List.map_map] at t6
        have : (pik (fun k => !secB V (V.P r).es (bst V (V.P r).es).1 (bst V (V.P r).es).2.1 k) 0 (V.P r).es).map (wset V (tg (V.P r).es (bst V (V.P r).es).1) ∘ reE V π (V.P r)) = (sp1 V (V.P r)).es.map (reE V' π' (sp1 V (V.P r))) := List.map_congr_left (fun e he => (reE_c (π' := π') (X := sp1 V (V.P r)) sm rfl rfl (fun z => bl r hp z e (pik_memes he))).symm)
        rw [this] at t6
        exact t6
      · by_cases z3 : r = q
        · subst z3
          rw [P3]
          have : insE (((V.P r).es.map (reE V π (V.P r))).set k (tg (V.P p).es (bst V (V.P p).es).1, re1 V (V.P p), cw V (V.P r).ce (tg (V.P p).es (bst V (V.P p).es).1), nI (π p))) (k + 1) (tg (V.P p).es (bst V (V.P p).es).2.1, re2 V (V.P p), cw V (V.P r).ce (tg (V.P p).es (bst V (V.P p).es).2.1), nI V.U) = (spQ V p r k).es.map (reE V' π' (spQ V p r k)) := by
            have x1 : ∀ e ∈ (V.P r).es, reE V' π' (spQ V p r k) e = reE V π (V.P r) e := fun e he => reE_s sm (by unfold spQ; rw [hlq]; rfl) rfl (fun z => bl r hr z e he)
            have x2 : ∀ (t rr b : Nat), reE V' π' (spQ V p r k) (t, rr, b) = (t, rr, cw V (V.P r).ce t, nI (π' b)) := fun t rr b => by
              unfold reE
              rw [wy_cw, sm.cx]
              rfl
            show _ = (insE ((V.P r).es.set k (tg (V.P p).es (bst V (V.P p).es).1, re1 V (V.P p), p)) (k + 1) (tg (V.P p).es (bst V (V.P p).es).2.1, re2 V (V.P p), V.U)).map _
            rw [map_insE, List.map_set, x2, x2, pi2, pi1 p hp, List.map_congr_left x1]
          rw [← this]
          exact t8
        · rw [P4 r hr z2 z3]
          have e2 : (V.P r).es.map (reE V' π' (V.P r)) = (V.P r).es.map (reE V π (V.P r)) := List.map_congr_left (fun e he => reE_s sm rfl rfl (fun z => bl r hr z e he))
          rw [e2]
          refine t3.rp (hpg r hr).2 (fun y => ?_)
          rcases y with y | y | y
          · exact z2 (hin r p hr hp y)
          · omega
          · exact z3 (hin r q hr hq y)
  · rw [eU] at hr
    rw [t3 (94 + 30 * r) (fun s hs => by omega)]
    exact hfr r (by omega) hr2
  · rw [eU] at hr hs
    by_cases z1 : r = V.U
    · by_cases z2 : s = V.U
      · omega
      · rw [z1, pi2, pi1 s (by omega)] at e
        have := (hpg s (by omega)).1
        omega
    · by_cases z2 : s = V.U
      · rw [z2, pi2, pi1 r (by omega)] at e
        have := (hpg r (by omega)).1
        omega
      · rw [pi1 r (by omega), pi1 s (by omega)] at e
        exact hin r s (by omega) (by omega) e
  · rw [eU] at hr ⊢
    by_cases z1 : r = V.U
    · exact ⟨V.U, by omega, by rw [pi2, z1]⟩
    · obtain ⟨s, h1, h2⟩ := hsu r (by omega)
      exact ⟨s, by omega, by rw [pi1 s h1]; exact h2⟩
end RTs
