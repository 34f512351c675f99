section BEST
variable {S0 : MS} {V : Vt} {g : Gh} {π : Nat → Nat} {dq : Nat → Nat} {fa : Bool} {most lk : Nat} {T : List Nat}
/-- what a search leaves of the reference -/
def Rz (S S' : MS) : Prop := (∀ j, j = 0 ∨ j = 1 ∨ j = 26 ∨ j = 27 ∨ j = 28 ∨ j = 29 → S'.1 j = S.1 j) ∧ ∀ k, k = 44 ∨ k = 45 ∨ k = 50 ∨ k = 52 → S'.2 k = S.2 k
theorem Rz.rfl {S : MS} : Rz S S := ⟨fun _ _ => Eq.refl _, fun _ _ => Eq.refl _⟩
theorem Rz.tr {S S1 S2 : MS} (h : Rz S S1) (k : Rz S1 S2) : Rz S S2 := ⟨fun j hj => (k.1 j hj).trans (h.1 j hj), fun j hj => (k.2 j hj).trans (h.2 j hj)⟩
/-- the reference amid a search for the best -/
def RX (S0 : MS) (V : Vt) (π : Nat → Nat) (dq : Nat → Nat) (lk : Nat) (T : List Nat) (S : MS) (X : Xs) : Prop := (RT (S.1 0) V π ∧ Qrf S V dq ∧ Rz S0 S ∧ S.2 33 = 1) ∧ (KR S dq X.1 ∧ S.2 27 = nI X.2.1 ∧ S.2 28 = nI X.2.2.1 ∧ S.2 29 = nI lk) ∧ Rf S X.2.2.2.1 ∧ WR S π X.2.2.2.2 T
/-- what holds of a search's lists -/
def PI (V : Vt) (g : Gh) (dq : Nat → Nat) (fa : Bool) (T : List Nat) (X : Xs) : Prop := QI V X.2.2.2.2 ∧ Srt fa dq X.2.2.2.1 ∧ (∀ x ∈ X.2.2.2.1, hs V x ∧ X.1 x = true) ∧ (T.Nodup ∧ ∀ p ∈ T, p ∈ qpg X.2.2.2.2) ∧ (∀ x ∈ X.2.2.2.2, x.1 ≠ V.R → g.pa x.1 ∈ T) ∧ (∀ t ∈ X.2.2.2.1, ∃ p ∈ T, g.lo t = some p) ∧ ∀ x ∈ X.2.2.2.2, (∀ c, (V.P x.1).ce = some c → X.1 c = true ∧ x.2.2 = nI (dq c)) ∧ ((V.P x.1).ce = none → x.2.2 = -1)
theorem srt_nd {R : List Nat} (h : Srt fa dq R) : R.Nodup := h.imp (fun {a b} q z => by rw [z] at q; exact ah_irr q)
theorem PI.r39 {X : Xs} (h : PI V g dq fa T X) {t : Nat} (ht : t < 40) (hn : t ∉ X.2.2.2.1) : X.2.2.2.1.length < 40 := by
  have := nd_len 40 (t :: X.2.2.2.1) (List.nodup_cons.mpr ⟨hn, srt_nd h.2.1⟩) (fun q hq => by
    rcases List.mem_cons.mp hq with rfl | hq
    · exact ht
    · exact (h.2.2.1 q hq).1.1)
  rw [List.length_cons] at this
  omega
theorem PI.step {stays : Bool} {lim p : Nat} {e : Ent} {X X' : Xs} (h : PI V g dq fa T X) (w : Wf V g V.U) (hd : ∀ t, dq t ≤ 99) (hp : p < V.U) (pT : p ∈ T) (he : e ∈ (V.P p).es) (hin : (V.P p).lf = false → e.2.2 ∉ qpg X.2.2.2.2) (s : Stq V dq fa stays most lim p e X X') : PI V g dq fa T X' := by
  obtain ⟨h1, h2, h3, ⟨h4, h5⟩, h6, h7, h8⟩ := h
  have K' : ∀ c, X.1 c = true → X'.1 c = true := fun c hc => s.K hc
  have hse := ((w.2.1 p hp).2.1 e he).1
  obtain ⟨r1, r2⟩ := s.R h2
  have rest : (∀ x ∈ X'.2.2.2.1, hs V x ∧ X'.1 x = true) ∧ (∀ t ∈ X'.2.2.2.1, ∃ p ∈ T, g.lo t = some p) := by
    refine ⟨fun x hx => ?_, fun x hx => ?_⟩
    · rcases r2 x hx with z | ⟨-, z, y⟩
      · exact ⟨(h3 x z).1, K' x (h3 x z).2⟩
      · exact ⟨by rw [z]; exact hse, y⟩
    · rcases r2 x hx with z | ⟨y, z, -⟩
      · exact h7 x z
      · exact ⟨p, pT, by rw [z]; exact ((w.2.1 p hp).2.1 e he).2.2.2 y⟩
  rcases s.Q with q | ⟨hl, ke, q⟩
  · refine ⟨by rw [q]; exact h1, r1, rest.1, ⟨h4, by rw [q]; exact h5⟩, by rw [q]; exact h6, rest.2, ?_⟩
    rw [q]
    exact fun x hx => ⟨fun c hc => ⟨K' c ((h8 x hx).1 c hc).1, ((h8 x hx).1 c hc).2⟩, (h8 x hx).2⟩
  · obtain ⟨c1, c2, c3, c4, c5⟩ := ((w.2.1 p hp).2.1 e he).2.2.1 hl
    have r9 := (w.es hp e he).2
    have d9 := hd e.1
    have bb : bdn dq fa e < 100000 := by unfold bdn; split <;> omega
    refine ⟨⟨?_, fun x hx => ?_⟩, r1, rest.1, ⟨h4, fun p' hp' => ?_⟩, fun x hx hr => ?_, rest.2, fun x hx => ?_⟩
    · rw [q]
      unfold qpg
      rw [List.map_append, List.nodup_append]
      refine ⟨h1.1, by simp, fun x hx y hy => ?_⟩
      rw [List.mem_singleton.mp hy]
      intro z
      have z : x = e.2.2 := z
      exact hin hl (by rw [← z]; exact hx)
    · rw [q] at hx
      rcases List.mem_append.mp hx with hx | hx
      · exact h1.2 x hx
      · rw [List.mem_singleton.mp hx]; exact ⟨c1, bb⟩
    · rw [q]
      unfold qpg
      rw [List.map_append]
      exact List.mem_append_left _ (h5 p' hp')
    · rw [q] at hx
      rcases List.mem_append.mp hx with hx | hx
      · exact h6 x hx hr
      · rw [List.mem_singleton.mp hx]
        show g.pa e.2.2 ∈ T
        rw [c4]; exact pT
    · rw [q] at hx
      rcases List.mem_append.mp hx with hx | hx
      · exact ⟨fun c hc => ⟨K' c ((h8 x hx).1 c hc).1, ((h8 x hx).1 c hc).2⟩, (h8 x hx).2⟩
      · rw [List.mem_singleton.mp hx]
        refine ⟨fun c hc => ?_, fun hc => ?_⟩
        · have hc : (V.P e.2.2).ce = some c := hc
          rw [c3] at hc
          cases hc
          exact ⟨ke, rfl⟩
        · have hc : (V.P e.2.2).ce = none := hc
          rw [c3] at hc
          cases hc
theorem PI.steps {stays : Bool} {lim p : Nat} (w : Wf V g V.U) (hd : ∀ t, dq t ≤ 99) (hp : p < V.U) (pT : p ∈ T) : ∀ (k : Nat) (es : List Ent) (X X' : Xs), es = (V.P p).es.drop k → PI V g dq fa T X → ((V.P p).lf = false → ∀ e ∈ es, e.2.2 ∉ qpg X.2.2.2.2) → Sts V dq fa stays most lim p es X X' → PI V g dq fa T X'
  | k, [], X, X', _, h, _, s => by
    have s : X' = X := s
    rw [s]; exact h
  | k, e :: es, X, X', he, h, hin, s => by
    obtain ⟨X1, s1, s2⟩ := s
    have hm : e ∈ (V.P p).es := List.mem_of_mem_drop (by rw [← he]; exact List.mem_cons_self ..)
    have kl : k < (V.P p).es.length := by
      by_cases z : k < (V.P p).es.length
      · exact z
      · rw [List.drop_eq_nil_of_le (by omega)] at he; cases he
    rw [List.drop_eq_getElem_cons kl] at he
    have h1 := h.step w hd hp pT hm (fun y => hin y e (List.mem_cons_self ..)) s1
    refine PI.steps w hd hp pT (k + 1) es X1 X' (List.cons.inj he).2 h1 (fun y f hf z => ?_) s2
    have he1 := (List.cons.inj he).1
    have he2 := (List.cons.inj he).2
    have ne : f.2.2 ≠ e.2.2 := fun v => by
      rw [he2] at hf
      obtain ⟨j, hj⟩ := List.mem_iff_getElem?.mp hf
      rw [List.getElem?_drop] at hj
      have := nd_eq ((w.2.1 p hp).2.2.1.1 y) (i := k) (j := k + 1 + j) (a := e.2.2) (by rw [List.getElem?_map, List.getElem?_eq_getElem kl, ← he1]; rfl) (by rw [List.getElem?_map, hj, ← v]; rfl)
      omega
    rcases s1.Q with q | ⟨-, -, q⟩
    · rw [q] at z; exact hin y f (List.mem_cons_of_mem _ hf) z
    · rw [q] at z
      unfold qpg at z
      rw [List.map_append, List.mem_append] at z
      rcases z with z | z
      · exact hin y f (List.mem_cons_of_mem _ hf) z
      · exact ne (List.mem_singleton.mp z)
theorem r_limit {S : MS} {X : Xs} (kr : KR S dq X.1) (rf : Rf S X.2.2.2.1) (hR : ∀ x ∈ X.2.2.2.1, hs V x ∧ X.1 x = true) (hm : 1 ≤ most ∧ most ≤ 40) : r_limitOf S (nI most) = some (o2i (lmt dq false most 0 X.2.2.2.1)) := by
  have l40 := rf.2.1
  unfold r_limitOf lmt
  rw [rf.1, if_neg (show ¬ false = true by decide)]
  by_cases z : most ≤ X.2.2.2.1.length
  · obtain ⟨t, ht⟩ : ∃ t, X.2.2.2.1[most - 1]? = some t := ⟨_, List.getElem?_eq_getElem (by omega)⟩
    obtain ⟨t1, t2⟩ := hR t (List.mem_of_getElem? ht)
    have t40 := t1.1
    rw [if_pos (nI_le z (by omega)), if_pos z, show nI most - 1 = nI (most - 1) by rw [show (1 : Int32) = nI 1 from rfl, pk_sub (by omega)], rd_ok (by rw [len17.2.1]; omega) (by omega), bind_s, rf.2.2 _ t ht, rd_ok (by rw [len17.1]; exact t40) (by omega), bind_s, kr t t40, if_pos t2, ht]
    rfl
  · rw [if_neg (nI_ge (by omega) (by omega)), if_neg z]
    rfl
end BEST
