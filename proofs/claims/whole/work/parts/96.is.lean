section IS
variable {σ : Hp} {S : MS} {V : Vt} {π : Nat → Nat} {g : Gh} {E : Nat} {L : List Nat}
/-- a sum over the reference's pages -/
theorem r_pgsum {ρ : Type} (rt : RT (S.1 0) V π) (hU : V.U ≤ 784) (Lo : Nat → Int32 → Int32 → MS → ρ) (h : Nat → Nat) (R : Nat → MS → ρ) (fin : ∀ F n T, S2 S T → Lo (F + 1) (nI n) (nI 784) T = R n T) (s1 : ∀ F n p T, p < V.U → S2 S T → ∃ T', S2 S T' ∧ Lo (F + 1) (nI n) (nI (π p)) T = Lo F (nI (n + h p)) (nI (π p + 1)) T') (s2 : ∀ F n q T, V.U ≤ q → q < 784 → S2 S T → Lo (F + 1) (nI n) (nI q) T = Lo F (nI n) (nI (q + 1)) T) : ∃ T', S2 S T' ∧ Lo FU 0 0 S = R (su h V.U) T' := by
  have ex : ∀ q, ∃ v, (∀ p, p < V.U → π p = q → v = h p) ∧ (V.U ≤ q → v = 0) := fun q => by
    by_cases z : q < V.U
    · obtain ⟨p, p1, p2⟩ := rt.2.2.2.2.2 q z
      exact ⟨h p, fun p' h1 h2 => by rw [rt.2.2.2.2.1 p' p h1 p1 (h2.trans p2.symm)], fun y => by omega⟩
    · exact ⟨0, fun p h1 h2 => by have := (rt.2.2.1 p h1).1; omega, fun _ => rfl⟩
  obtain ⟨f, hf⟩ := Classical.axiomOfChoice ex
  have e : su f 784 = su h V.U := by
    rw [su_zero (U := V.U) (fun q hq => (hf q).2 hq) 784 hU]
    exact su_perm (fun p hp => (rt.2.2.1 p hp).1) rt.2.2.2.2.1 rt.2.2.2.2.2 (fun p hp => (hf (π p)).1 p hp rfl)
  rw [← e]
  refine lp 784 (fun F q (T : MS) => Lo F (nI (su f q)) (nI q) T) (fun _ T => S2 S T) (fun r => ∃ T', S2 S T' ∧ r = R (su f 784) T') (fun F T J => ⟨T, J, fin F _ T J⟩) (fun F q T hq J => Or.inl ?_) 784 0 FU S (FU_gt (by omega)) rfl S2.rfl
  show ∃ a', S2 S a' ∧ Lo (F + 1) (nI (su f q)) (nI q) T = Lo F (nI (su f q + f q)) (nI (q + 1)) a'
  by_cases z : q < V.U
  · obtain ⟨p, p1, rfl⟩ := rt.2.2.2.2.2 q z
    rw [(hf (π p)).1 p p1 rfl]
    exact s1 F _ p T p1 J
  · rw [(hf q).2 (by omega)]
    exact ⟨T, J, s2 F _ q T (by omega) hq J⟩
theorem RT.s2 {T : MS} (rt : RT (S.1 0) V π) (j : S2 S T) : RT (T.1 0) V π := by rw [j.r (by decide) (by decide)]; exact rt
theorem RT.fr {T : MS} (rt : RT (S.1 0) V π) (j : S2 S T) {q : Nat} (h1 : V.U ≤ q) (h2 : q < 784) : r_countOf T (nI q) = some (-1) := by rw [r_countOf_eq h2, j.r (by decide) (by decide), rt.2.2.2.1 q h1 h2]
theorem r_pages_eq (rt : RT (S.1 0) V π) (w : Wf V g V.U) : r_pages S = some (nI V.U) := by
  have u := w.u
  unfold r_pages
  obtain ⟨T, -, e⟩ := r_pgsum rt (by omega) (fun F a q _ => r_pages_4 S F a q) (fun _ => 1) (fun n _ => some (nI n)) (fun F n T _ => by rw [r_pages_4.eq_2, if_pos (by decide)]) (fun F n p T hp j => ⟨T, j, by
    obtain ⟨p1, p2⟩ := rt.2.2.1 p hp
    have l7 := p2.2.2
    rw [r_pages_4.eq_2, show (784 : Int32) = nI 784 from rfl, if_neg (nI_ge (by omega) (by omega)), p2.n (by omega), bind_s, if_neg (fun y => (nI_m1 (by omega)).mp y)]
    unfold r_pages_26
    rw [nI_1, nI_1]⟩) (fun F n q T h1 h2 j => by
    rw [r_pages_4.eq_2, show (784 : Int32) = nI 784 from rfl, if_neg (nI_ge (by omega) (by omega)), rt.fr S2.rfl h1 h2, bind_s, if_pos rfl]
    unfold r_pages_26
    rw [nI_1, Int32.add_zero])
  rw [e]
  have : su (fun _ => 1) V.U = V.U := by
    have : ∀ n, su (fun _ => 1) n = n := fun n => by
      induction n with
      | zero => rfl
      | succ n ih => show su (fun _ => 1) n + 1 = _; rw [ih]
    exact this _
  rw [this]
theorem r_leaves_eq (rt : RT (S.1 0) V π) (w : Wf V g V.U) : r_leaves S = some (nI (nlv V V.U)) := by
  have u := w.u
  unfold r_leaves
  obtain ⟨T, -, e⟩ := r_pgsum rt (by omega) (fun F a q _ => r_leaves_4 S F a q) (fun p => if (V.P p).lf = true then 1 else 0) (fun n _ => some (nI n)) (fun F n T _ => by rw [r_leaves_4.eq_2, if_pos (by decide)]) (fun F n p T hp j => ⟨T, j, by
    obtain ⟨p1, p2⟩ := rt.2.2.1 p hp
    have l7 := p2.2.2
    rw [r_leaves_4.eq_2, show (784 : Int32) = nI 784 from rfl, if_neg (nI_ge (by omega) (by omega)), p2.n (by omega), bind_s, if_neg (fun y => (nI_m1 (by omega)).mp y), p2.l (by omega), bind_s, ite_bI]
    unfold r_leaves_33 r_leaves_34
    by_cases z : (V.P p).lf = true
    · rw [if_pos z, if_pos z, nI_1, nI_1]
    · rw [if_neg z, if_neg z, nI_1, Int32.add_zero]; rfl⟩) (fun F n q T h1 h2 j => by
    rw [r_leaves_4.eq_2, show (784 : Int32) = nI 784 from rfl, if_neg (nI_ge (by omega) (by omega)), rt.fr S2.rfl h1 h2, bind_s, if_pos rfl]
    unfold r_leaves_33 r_leaves_34
    rw [nI_1, Int32.add_zero])
  exact e
def sre (es : List Ent) : Nat := (es.map (fun e => e.2.1)).sum
theorem take_sum {es : List Ent} {f : Ent → Nat} {k : Nat} {e : Ent} (h : es[k]? = some e) : ((es.take (k + 1)).map f).sum = ((es.take k).map f).sum + f e := by
  have h1 : es.take (k + 1) = es.take k ++ [e] := by rw [List.take_succ, h]; rfl
  rw [h1, List.map_append, List.sum_append]
  show _ + (f e + 0) = _
  rfl
theorem r_sumOf_eq (rt : RT (S.1 0) V π) (w : Wf V g V.U) {x : Int32} {f : Ent → Nat} (hx : (x = -1 ∧ f = fun _ => 1) ∨ (x = 1 ∧ f = fun e => e.2.1)) : r_sumOf S x = some (nI (su (fun p => ((V.P p).es.map f).sum) V.U)) := by
  have u := w.u
  unfold r_sumOf
  obtain ⟨T, -, e⟩ := r_pgsum rt (by omega) (fun F a q _ => r_sumOf_4 S F x a q) (fun p => ((V.P p).es.map f).sum) (fun n _ => some (nI n)) (fun F n T _ => by rw [r_sumOf_4.eq_2, if_pos (by decide)]) (fun F n p T hp j => ⟨T, j, by
    obtain ⟨p1, p2⟩ := rt.2.2.1 p hp
    have l7 := p2.2.2
    rw [List.length_map] at l7
    rw [r_sumOf_4.eq_2, show (784 : Int32) = nI 784 from rfl, if_neg (nI_ge (by omega) (by omega))]
    have lo := lp (V.P p).es.length (fun F' k (_ : Unit) => r_sumOf_14 S (r_sumOf_4 S F) F' x (nI (n + (((V.P p).es.take k).map f).sum)) (nI (π p)) (nI k)) (fun _ _ => True) (fun r => r = r_sumOf_4 S F x (nI (n + ((V.P p).es.map f).sum)) (nI (π p + 1))) (fun F' _ _ => ?_) (fun F' k _ hk _ => Or.inl ⟨(), trivial, ?_⟩) (V.P p).es.length 0 FU () (FU_gt (by omega)) (by omega) trivial
    · exact lo
    · show r_sumOf_14 S (r_sumOf_4 S F) (F' + 1) x (nI (n + (((V.P p).es.take (V.P p).es.length).map f).sum)) (nI (π p)) (nI (V.P p).es.length) = _
      rw [r_sumOf_14.eq_2, p2.n (by omega), bind_s, List.length_map, if_pos (nI_le (Nat.le_refl _) (by omega)), List.take_length, nI_1]
    · obtain ⟨e, he⟩ : ∃ e, (V.P p).es[k]? = some e := ⟨_, List.getElem?_eq_getElem hk⟩
      show r_sumOf_14 S (r_sumOf_4 S F) (F' + 1) x (nI (n + (((V.P p).es.take k).map f).sum)) (nI (π p)) (nI k) = r_sumOf_14 S (r_sumOf_4 S F) F' x (nI (n + (((V.P p).es.take (k + 1)).map f).sum)) (nI (π p)) (nI (k + 1))
      rw [r_sumOf_14.eq_2, p2.n (by omega), bind_s, List.length_map, if_neg (nI_ge hk (by omega)), take_sum he]
      unfold r_sumOf_42
      rcases hx with ⟨rfl, rfl⟩ | ⟨rfl, rfl⟩
      · rw [if_pos rfl, nI_1, nI_1, Nat.add_assoc]
      · rw [if_neg (by decide), p2.e1 (by omega) (e := reE V π (V.P p) e) (by rw [List.getElem?_map, he]; rfl), bind_s, nI_1]
        show r_sumOf_14 S (r_sumOf_4 S F) F' 1 (nI (n + (((V.P p).es.take k).map fun e => e.2.1).sum) + nI e.2.1) _ _ = _
        rw [nI_add, Nat.add_assoc]⟩) (fun F n q T h1 h2 j => by
    rw [r_sumOf_4.eq_2, show (784 : Int32) = nI 784 from rfl, if_neg (nI_ge (by omega) (by omega)), show FU = 999999 + 1 from rfl, r_sumOf_14.eq_2, rt.fr S2.rfl h1 h2, bind_s, if_pos (by decide), nI_1])
  exact e
/-- the class's sums -/
theorem c_pgsum {ρ : Type} (hU : V.U < 1000) (Lo : Nat → Int32 → Int32 → ρ) (h : Nat → Nat) (R : Nat → ρ) (fin : ∀ F n, Lo (F + 1) (nI n) (nI V.U) = R n) (s1 : ∀ F n p, p < V.U → Lo (F + 1) (nI n) (nI p) = Lo F (nI (n + h p)) (nI (p + 1))) : Lo FU 0 0 = R (su h V.U) := lp V.U (fun F q (_ : Unit) => Lo F (nI (su h q)) (nI q)) (fun _ _ => True) (fun r => r = R (su h V.U)) (fun F _ _ => fin F _) (fun F q _ hq _ => Or.inl ⟨(), trivial, s1 F _ q hq⟩) V.U 0 FU () (FU_gt (by omega)) (by omega) trivial
theorem c_countLeaves (ts : Ts σ E L V) (w : Wf V g V.U) : kX9_countLeaves σ 23 = some (nI (nlv V V.U)) := by
  have u := w.u
  unfold kX9_countLeaves
  refine c_pgsum (V := V) (by omega) (fun F a q => kX9_countLeaves_4 σ F 23 a q) (fun p => if (V.P p).lf = true then 1 else 0) (fun n => some (nI n)) (fun F n => ?_) (fun F n p hp => ?_)
  · rw [kX9_countLeaves_4.eq_2, ts.2.1.st, bind_s, ts.1.u, bind_s, if_pos (nI_le (Nat.le_refl _) (by omega))]
  · obtain ⟨a, h1, h2, h3⟩ := ts.1.pg hp
    rw [kX9_countLeaves_4.eq_2, ts.2.1.st, bind_s, ts.1.u, bind_s, if_neg (nI_ge hp (by omega)), bind_s, ts.1.cs, h3, bind_s, h2.l, bind_s, ite_bI]
    unfold kX9_countLeaves_35
    by_cases z : (V.P p).lf = true
    · rw [if_pos z, if_pos z, nI_1, nI_1]
    · rw [if_neg z, if_neg z, nI_1, Int32.add_zero]; rfl
theorem ones_sum (l : List Ent) : (l.map (fun _ => 1)).sum = l.length := by
  induction l with
  | nil => rfl
  | cons x l ih => rw [List.map_cons, List.sum_cons, ih, List.length_cons]; omega
theorem c_countEntries (ts : Ts σ E L V) (w : Wf V g V.U) : kX9_countEntries σ 23 = some (nI (su (fun p => ((V.P p).es.map (fun _ => 1)).sum) V.U)) := by
  have u := w.u
  unfold kX9_countEntries
  refine c_pgsum (V := V) (by omega) (fun F a q => kX9_countEntries_4 σ F 23 a q) (fun p => ((V.P p).es.map (fun _ => 1)).sum) (fun n => some (nI n)) (fun F n => ?_) (fun F n p hp => ?_)
  · rw [kX9_countEntries_4.eq_2, ts.2.1.st, bind_s, ts.1.u, bind_s, if_pos (nI_le (Nat.le_refl _) (by omega))]
  · obtain ⟨a, h1, h2, h3⟩ := ts.1.pg hp
    rw [kX9_countEntries_4.eq_2, ts.2.1.st, bind_s, ts.1.u, bind_s, if_neg (nI_ge hp (by omega)), bind_s, ts.1.cs, h3, bind_s, h2.n, bind_s, nI_add, nI_1, ones_sum]
theorem c_sumReaches (ts : Ts σ E L V) (w : Wf V g V.U) : kX9_sumReaches σ 23 = some (nI (su (fun p => ((V.P p).es.map (fun e => e.2.1)).sum) V.U)) := by
  have u := w.u
  unfold kX9_sumReaches
  refine c_pgsum (V := V) (by omega) (fun F a q => kX9_sumReaches_4 σ F 23 a q) (fun p => ((V.P p).es.map (fun e => e.2.1)).sum) (fun n => some (nI n)) (fun F n => ?_) (fun F n p hp => ?_)
  · rw [kX9_sumReaches_4.eq_2, ts.2.1.st, bind_s, ts.1.u, bind_s, if_pos (nI_le (Nat.le_refl _) (by omega))]
  · obtain ⟨a, h1, h2, h3⟩ := ts.1.pg hp
    have l7 := h2.le
    rw [kX9_sumReaches_4.eq_2, ts.2.1.st, bind_s, ts.1.u, bind_s, if_neg (nI_ge hp (by omega)), bind_s, ts.1.cs, h3, bind_s]
    refine lp (V.P p).es.length (fun F' k (_ : Unit) => kX9_sumReaches_27 σ (kX9_sumReaches_4 σ F) F' 23 (nI (n + (((V.P p).es.take k).map (fun e => e.2.1)).sum)) (nI p) a (nI k)) (fun _ _ => True) (fun r => r = kX9_sumReaches_4 σ F 23 (nI (n + ((V.P p).es.map (fun e => e.2.1)).sum)) (nI (p + 1))) (fun F' _ _ => ?_) (fun F' k _ hk _ => Or.inl ⟨(), trivial, ?_⟩) (V.P p).es.length 0 FU () (FU_gt (by omega)) (by omega) trivial
    · show kX9_sumReaches_27 σ (kX9_sumReaches_4 σ F) (F' + 1) 23 (nI (n + (((V.P p).es.take (V.P p).es.length).map (fun e => e.2.1)).sum)) (nI p) a (nI (V.P p).es.length) = _
      rw [kX9_sumReaches_27.eq_2, h2.n, bind_s, if_pos (nI_le (Nat.le_refl _) (by omega)), List.take_length, nI_1]
    · obtain ⟨e, he⟩ : ∃ e, (V.P p).es[k]? = some e := ⟨_, List.getElem?_eq_getElem hk⟩
      show kX9_sumReaches_27 σ (kX9_sumReaches_4 σ F) (F' + 1) 23 (nI (n + (((V.P p).es.take k).map (fun e => e.2.1)).sum)) (nI p) a (nI k) = kX9_sumReaches_27 σ (kX9_sumReaches_4 σ F) F' 23 (nI (n + (((V.P p).es.take (k + 1)).map (fun e => e.2.1)).sum)) (nI p) a (nI (k + 1))
      rw [kX9_sumReaches_27.eq_2, h2.n, bind_s, if_neg (nI_ge hk (by omega)), h2.1.f2, bind_s, h2.r he, bind_s, take_sum he, nI_add, nI_1, Nat.add_assoc]
theorem inner0 (w : Wf V g V.U) {p : Nat} (hp : p < V.U) (hl : (V.P p).lf = false) : ∃ e, (V.P p).es[0]? = some e := by
  have wp := w.2.1 p hp
  have : 0 < (V.P p).es.length := by
    by_cases z : p = V.R
    · have := wp.1.2.2.2.1 hl z; omega
    · exact wp.1.2.2.1 z
  exact ⟨_, List.getElem?_eq_getElem this⟩
theorem lf_ht (w : Wf V g V.U) {p h : Nat} (hp : p < V.U) (hh : g.ht p = h + 1) : (V.P p).lf = false := by
  cases z : (V.P p).lf with
  | false => rfl
  | true => have := (w.2.1 p hp).1.1.mp z; omega
theorem c_levels (ts : Ts σ E L V) (w : Wf V g V.U) : kX9_countLevels σ 23 = some (nI (g.ht V.R + 1)) := by
  have hr := w.hr
  have key : ∀ (h : Nat) (F n p a : Nat), h < F → g.ht p = h → p < V.U → L[p]? = some a → n + h ≤ 39 → kX9_countLevels_19 σ F 23 a (nI n) (nI n) = some (nI (n + h)) := by
    intro h
    induction h with
    | zero =>
      intro F n p a hF hh hp ha hn
      obtain ⟨F, rfl⟩ : ∃ F', F = F' + 1 := ⟨F - 1, by omega⟩
      have pc := ts.1.2.2.2.2.2.2 p a hp ha
      rw [kX9_countLevels_19.eq_2, show (40 : Int32) = nI 40 from rfl, if_neg (nI_ge (by omega) (by omega)), pc.l, bind_s, ite_bI, if_pos ((w.2.1 p hp).1.1.mpr hh), Nat.add_zero]
    | succ h ih =>
      intro F n p a hF hh hp ha hn
      obtain ⟨F, rfl⟩ : ∃ F', F = F' + 1 := ⟨F - 1, by omega⟩
      have pc := ts.1.2.2.2.2.2.2 p a hp ha
      have hl := lf_ht w hp hh
      obtain ⟨e, he⟩ := inner0 w hp hl
      have we := ((w.2.1 p hp).2.1 e (List.mem_of_getElem? he)).2.2.1 hl
      obtain ⟨b, hb, -, hb3⟩ := ts.1.pg we.1
      have pb : ald σ 1 (a + 3) 0 = some (nI e.2.2) := pc.b (k := 0) he hl
      rw [kX9_countLevels_19.eq_2, show (40 : Int32) = nI 40 from rfl, if_neg (nI_ge (by omega) (by omega)), pc.l, bind_s, ite_bI, if_neg (by rw [hl]; decide), ts.2.1.st, bind_s, pc.1.f3, bind_s, pb, bind_s, ts.1.cs, hb3, bind_s, nI_1, ih F (n + 1) e.2.2 b (by omega) (by omega) we.1 hb (by omega)]
      congr 2
      omega
  obtain ⟨a, ha, -, ha3⟩ := ts.1.pg w.1.1
  unfold kX9_countLevels
  rw [ts.2.1.st, bind_s, bind_s, ts.1.rt, bind_s, ts.1.cs, ha3, bind_s, show (1 : Int32) = nI 1 from rfl, key (g.ht V.R) FU 1 V.R a (FU_gt (by omega)) rfl w.1.1 ha (by omega), Nat.add_comm]
theorem r_levels (rt : RT (S.1 0) V π) (w : Wf V g V.U) : r_heightOf S = some (nI (g.ht V.R + 1)) := by
  have hr := w.hr
  have u := w.u
  have key : ∀ (h : Nat) (F n p : Nat), h < F → g.ht p = h → p < V.U → r_heightOf_9 S F (nI n) (nI (π p)) = some (nI (n + h)) := by
    intro h
    induction h with
    | zero =>
      intro F n p hF hh hp
      obtain ⟨F, rfl⟩ : ∃ F', F = F' + 1 := ⟨F - 1, by omega⟩
      obtain ⟨p1, p2⟩ := rt.2.2.1 p hp
      rw [r_heightOf_9.eq_2, p2.l (by omega), bind_s, ite_bI, if_pos ((w.2.1 p hp).1.1.mpr hh), Nat.add_zero]
    | succ h ih =>
      intro F n p hF hh hp
      obtain ⟨F, rfl⟩ : ∃ F', F = F' + 1 := ⟨F - 1, by omega⟩
      obtain ⟨p1, p2⟩ := rt.2.2.1 p hp
      have hl := lf_ht w hp hh
      obtain ⟨e, he⟩ := inner0 w hp hl
      have we := ((w.2.1 p hp).2.1 e (List.mem_of_getElem? he)).2.2.1 hl
      have e3 : r_entryOf S (nI (π p)) 0 3 = some (nI (π e.2.2)) := by
        have := p2.e3 (k := 0) (by omega) (e := reE V π (V.P p) e) (by rw [List.getElem?_map, he]; rfl)
        rw [show (reE V π (V.P p) e).2.2.2 = nI (π e.2.2) by show (if (V.P p).lf = true then -1 else nI (π e.2.2)) = _; rw [hl, if_neg (by decide)]] at this
        exact this
      rw [r_heightOf_9.eq_2, p2.l (by omega), bind_s, ite_bI, if_neg (by rw [hl]; decide), e3, bind_s, nI_1, ih F (n + 1) e.2.2 (by omega) (by omega) we.1]
      congr 2
      omega
  unfold r_heightOf
  rw [show (2 : Int32) = nI 2 from rfl, rd_r0 (by omega), bind_s, rt.2.1, show (1 : Int32) = nI 1 from rfl, key (g.ht V.R) FU 1 V.R (FU_gt (by omega)) rfl w.1.1, Nat.add_comm]
end IS
