-- looking through all pages
def pin : List Ent → Nat → Option Nat
  | [], _ => none
  | e :: r, t => if e.1 = t then some 0 else (pin r t).map (· + 1)
theorem pin_spec : ∀ (l : List Ent) (t : Nat), match pin l t with | none => ∀ e ∈ l, e.1 ≠ t | some k => (∃ e, l[k]? = some e ∧ e.1 = t) ∧ ∀ (j : Nat) (e : Ent), j < k → l[j]? = some e → e.1 ≠ t
  | [], t => fun e he => by cases he
  | x :: r, t => by
    unfold pin
    by_cases h : x.1 = t
    · rw [if_pos h]
      exact ⟨⟨x, rfl, h⟩, fun j e hj => absurd hj (Nat.not_lt_zero _)⟩
    · rw [if_neg h]
      have ih := pin_spec r t
      cases q : pin r t with
      | none =>
        rw [q] at ih
        intro e he
        rcases List.mem_cons.mp he with rfl | he
        · exact h
        · exact ih e he
      | some k =>
        rw [q] at ih
        refine ⟨?_, fun j e hj he => ?_⟩
        · obtain ⟨e, h1, h2⟩ := ih.1
          exact ⟨e, by simpa using h1, h2⟩
        · cases j with
          | zero => cases he; exact h
          | succ j => exact ih.2 j e (by show j < k; have : j + 1 < k + 1 := hj; omega) (by simpa using he)
theorem pin_lt {l : List Ent} {t k : Nat} (h : pin l t = some k) : k < l.length := by
  have := pin_spec l t
  rw [h] at this
  obtain ⟨e, h1, -⟩ := this.1
  exact get_lt h1
section FND
variable {σ : Hp} {S : MS} {V : Vt} {π : Nat → Nat} {g : Gh} {E : Nat} {L : List Nat} {t : Nat}
theorem c_placeIn {a : Nat} {p : Pg} (pc : PC σ a p) (ht : t < 2 ^ 31) (hes : ∀ e ∈ p.es, e.1 < 2 ^ 31) : kX3_placeIn σ a (nI t) = some (o2i (pin p.es t)) := by
  have h7 := pc.le
  unfold kX3_placeIn
  have key : ∀ (m F k : Nat), m < F → k + m = p.es.length → kX3_placeIn_2 σ F a (nI t) (nI k) = some (o2i ((pin (p.es.drop k) t).map (· + k))) := by
    intro m
    induction m with
    | zero =>
      intro F k hF hk
      obtain ⟨F, rfl⟩ : ∃ F', F = F' + 1 := ⟨F - 1, by omega⟩
      have : k = p.es.length := by omega
      subst this
      rw [kX3_placeIn_2.eq_2, pc.n, bind_s, if_pos (nI_le (Nat.le_refl _) (by omega)), List.drop_length]
      rfl
    | succ m ih =>
      intro F k hF hk
      obtain ⟨F, rfl⟩ : ∃ F', F = F' + 1 := ⟨F - 1, by omega⟩
      obtain ⟨e, he⟩ : ∃ e, p.es[k]? = some e := ⟨_, List.getElem?_eq_getElem (show k < p.es.length by omega)⟩
      have dr : p.es.drop k = e :: p.es.drop (k + 1) := by
        rw [List.drop_eq_getElem_cons (by omega)]
        congr 1
        rw [List.getElem?_eq_getElem (by omega)] at he
        exact Option.some.inj he
      have e31 := hes e (List.mem_of_getElem? he)
      rw [kX3_placeIn_2.eq_2, pc.n, bind_s, if_neg (nI_ge (by omega) (by omega)), pc.1.f1, bind_s, pc.t he, bind_s, dr]
      unfold pin
      by_cases z : e.1 = t
      · rw [if_pos (by rw [z]), if_pos z]
        show some (nI k) = some (nI (0 + k))
        rw [Nat.zero_add]
      · rw [if_neg (fun y => z ((nI_eq e31 ht).mp y)), if_neg z, nI_1, ih F (k + 1) (by omega) (by omega)]
        congr 2
        rw [Option.map_map]
        congr 1
        funext x
        show x + (k + 1) = x + 1 + k
        omega
  have := key p.es.length FU 0 (FU_gt (by omega)) (by omega)
  rw [show (0 : Int32) = nI 0 from rfl, this, List.drop_zero]
  congr 2
  cases pin p.es t <;> rfl
/-- a thing is a centre -/
def isC (V : Vt) (t : Nat) : Prop := ∃ p, p < V.U ∧ (V.P p).lf = false ∧ ∃ e ∈ (V.P p).es, e.1 = t
theorem c_hasCentre (st : St σ 3 E L V) (k23 : σ.kd 23 = 19) (f900 : σ.fr 900 23 = 3) (ht : t < 40) (hes : ∀ p, p < V.U → ∀ e ∈ (V.P p).es, e.1 < 40) : (isC V t → kX9_hasCentre σ 23 (nI t) = some 1) ∧ (¬ isC V t → kX9_hasCentre σ 23 (nI t) = some 0) := by
  have u1000 := st.U1000
  have st9 : gfr σ 19 900 23 = some 3 := by rw [gfr_ok k23, f900]
  unfold kX9_hasCentre
  have lo := lp V.U (fun F i (_ : Unit) => kX9_hasCentre_2 σ F 23 (nI t) (nI i)) (fun i _ => ∀ p, p < i → (V.P p).lf = false → ∀ e ∈ (V.P p).es, e.1 ≠ t) (fun r => (isC V t → r = some 1) ∧ (¬ isC V t → r = some 0)) (fun F _ J => ?_) (fun F i _ hi J => ?_) V.U 0 FU () (FU_gt (by omega)) (by omega) (fun p hp => absurd hp (Nat.not_lt_zero _))
  · exact lo
  · have : kX9_hasCentre_2 σ (F + 1) 23 (nI t) (nI V.U) = some 0 := by
      rw [kX9_hasCentre_2.eq_2, st9, bind_s, st.u, bind_s, if_pos (nI_le (Nat.le_refl _) (by omega))]
      rfl
    refine ⟨fun z => ?_, fun _ => this⟩
    obtain ⟨p, h1, h2, e, h3, h4⟩ := z
    exact absurd h4 (J p h1 h2 e h3)
  · obtain ⟨a, h1, h2, h3⟩ := st.pg hi
    have e : kX9_hasCentre_2 σ (F + 1) 23 (nI t) (nI i) = if (V.P i).lf = true then kX9_hasCentre_2 σ F 23 (nI t) (nI (i + 1)) else if o2i (pin (V.P i).es t) = -1 then kX9_hasCentre_2 σ F 23 (nI t) (nI (i + 1)) else some 1 := by
      rw [kX9_hasCentre_2.eq_2, st9, bind_s, st.u, bind_s, if_neg (nI_ge hi (by omega)), bind_s, st.cs, h3, bind_s, h2.l, bind_s, ite_bI, ckd_ok h2.1.1, c_placeIn h2 (by omega) (fun e he => by have := hes i hi e he; omega), bind_s]
      unfold kX9_hasCentre_40
      rw [nI_1]
      rfl
    show _ ∨ ((isC V t → kX9_hasCentre_2 σ (F + 1) 23 (nI t) (nI i) = some 1) ∧ _)
    show (∃ a', _ ∧ kX9_hasCentre_2 σ (F + 1) 23 (nI t) (nI i) = _) ∨ ((isC V t → kX9_hasCentre_2 σ (F + 1) 23 (nI t) (nI i) = some 1) ∧ (¬ isC V t → kX9_hasCentre_2 σ (F + 1) 23 (nI t) (nI i) = some 0))
    rw [e]
    have sp := pin_spec (V.P i).es t
    by_cases z : (V.P i).lf = true
    · rw [if_pos z]
      refine Or.inl ⟨(), fun p hp hl => ?_, rfl⟩
      by_cases y : p = i
      · rw [y, z] at hl; cases hl
      · exact J p (by omega) hl
    · rw [if_neg z]
      have hl : (V.P i).lf = false := by simpa using z
      cases q : pin (V.P i).es t with
      | none =>
        rw [q] at sp
        rw [if_pos (show o2i none = -1 from rfl)]
        refine Or.inl ⟨(), fun p hp hl => ?_, rfl⟩
        by_cases y : p = i
        · rw [y]; exact sp
        · exact J p (by omega) hl
      | some k =>
        have := pin_lt q
        have := h2.le
        rw [q] at sp
        rw [if_neg (show ¬ o2i (some k) = -1 from fun y => (nI_m1 (by omega)).mp y)]
        obtain ⟨e, m1, m2⟩ := sp.1
        exact Or.inr ⟨fun _ => rfl, fun y => absurd ⟨i, hi, hl, e, List.mem_of_getElem? m1, m2⟩ y⟩
theorem r_isCentre_eq (rt : RT (S.1 0) V π) (w : Wf V g V.U) (ht : t < 40) (hes : ∀ p, p < V.U → ∀ e ∈ (V.P p).es, e.1 < 40) : (isC V t → r_isCentre S (nI t) = some 1) ∧ (¬ isC V t → r_isCentre S (nI t) = some 0) := by
  have u780 := w.u
  unfold r_isCentre
  have lo := lp 784 (fun F i (_ : Unit) => r_isCentre_2 S F (nI t) (nI i)) (fun i _ => ∀ p, p < V.U → π p < i → (V.P p).lf = false → ∀ e ∈ (V.P p).es, e.1 ≠ t) (fun r => (isC V t → r = some 1) ∧ (¬ isC V t → r = some 0)) (fun F _ J => ?_) (fun F i _ hi J => ?_) 784 0 FU () (FU_gt (by omega)) rfl (fun p _ hp => absurd hp (Nat.not_lt_zero _))
  · exact lo
  · have : r_isCentre_2 S (F + 1) (nI t) (nI 784) = some 0 := by
      rw [r_isCentre_2.eq_2, if_pos (by decide)]
      rfl
    refine ⟨fun z => ?_, fun _ => this⟩
    obtain ⟨p, h1, h2, e, h3, h4⟩ := z
    have := (rt.2.2.1 p h1).1
    exact absurd h4 (J p h1 (by omega) h2 e h3)
  · show (∃ a', _ ∧ r_isCentre_2 S (F + 1) (nI t) (nI i) = r_isCentre_2 S F (nI t) (nI (i + 1))) ∨ ((isC V t → r_isCentre_2 S (F + 1) (nI t) (nI i) = some 1) ∧ (¬ isC V t → r_isCentre_2 S (F + 1) (nI t) (nI i) = some 0))
    rw [r_isCentre_2.eq_2, show (784 : Int32) = nI 784 from rfl, if_neg (nI_ge hi (by omega))]
    by_cases z : i < V.U
    · obtain ⟨p, hp, rfl⟩ := rt.2.2.2.2.2 i z
      obtain ⟨p1, p2⟩ := rt.2.2.1 p hp
      have l7 := p2.2.2
      rw [List.length_map] at l7
      have inn := lp (V.P p).es.length (fun F' k (_ : Unit) => r_isCentre_11 S (r_isCentre_2 S F) F' (nI t) (nI (π p)) (nI k)) (fun k _ => (V.P p).lf = false → ∀ (j : Nat) (e : Ent), j < k → (V.P p).es[j]? = some e → e.1 ≠ t) (fun r => (r = r_isCentre_2 S F (nI t) (nI (π p + 1)) ∧ ((V.P p).lf = false → ∀ e ∈ (V.P p).es, e.1 ≠ t)) ∨ (r = some 1 ∧ isC V t)) (fun F' _ J => ?_) (fun F' k _ hk J => ?_) (V.P p).es.length 0 FU () (FU_gt (by omega)) (by omega) (fun _ j e hj => absurd hj (Nat.not_lt_zero _))
      · rw [show (0 : Int32) = nI 0 from rfl]
        rcases inn with ⟨e1, e2⟩ | ⟨e1, e2⟩
        · rw [e1]
          refine Or.inl ⟨(), fun p' hp' hl => ?_, rfl⟩
          by_cases y : p' = p
          · rw [y]; exact e2
          · exact J p' hp' (by
              have : π p' ≠ π p := fun v => y (rt.2.2.2.2.1 p' p hp' hp v)
              omega)
        · rw [e1]
          exact Or.inr ⟨fun _ => rfl, fun y => absurd e2 y⟩
      · refine Or.inl ⟨?_, fun hl e he => ?_⟩
        · show r_isCentre_11 S (r_isCentre_2 S F) (F' + 1) (nI t) (nI (π p)) (nI (V.P p).es.length) = _
          rw [r_isCentre_11.eq_2, p2.n (by omega), bind_s, List.length_map, if_pos (nI_le (Nat.le_refl _) (by omega)), nI_1]
        · obtain ⟨j, hj⟩ := List.getElem?_of_mem he
          exact J hl j e (get_lt hj) hj
      · obtain ⟨e, he⟩ : ∃ e, (V.P p).es[k]? = some e := ⟨_, List.getElem?_eq_getElem hk⟩
        have e40 := hes p hp e (List.mem_of_getElem? he)
        show (∃ a', _ ∧ r_isCentre_11 S (r_isCentre_2 S F) (F' + 1) (nI t) (nI (π p)) (nI k) = r_isCentre_11 S (r_isCentre_2 S F) F' (nI t) (nI (π p)) (nI (k + 1))) ∨ ((r_isCentre_11 S (r_isCentre_2 S F) (F' + 1) (nI t) (nI (π p)) (nI k) = _ ∧ _) ∨ (r_isCentre_11 S (r_isCentre_2 S F) (F' + 1) (nI t) (nI (π p)) (nI k) = some 1 ∧ _))
        rw [r_isCentre_11.eq_2, p2.n (by omega), bind_s, List.length_map, if_neg (nI_ge hk (by omega)), p2.l (by omega), bind_s, ite_bI, p2.e0 (by omega) (e := reE V π (V.P p) e) (by rw [List.getElem?_map, he]; rfl), bind_s]
        unfold r_isCentre_41
        rw [nI_1]
        by_cases y : (V.P p).lf = true
        · rw [if_pos y]
          exact Or.inl ⟨(), fun hl => (by rw [y] at hl; cases hl), rfl⟩
        · rw [if_neg y]
          have hl : (V.P p).lf = false := by simpa using y
          show (∃ a', _ ∧ (if nI e.1 = nI t then _ else _) = _) ∨ (((if nI e.1 = nI t then _ else _) = _ ∧ _) ∨ ((if nI e.1 = nI t then _ else _) = some 1 ∧ _))
          by_cases v : e.1 = t
          · rw [if_pos (by rw [v])]
            exact Or.inr (Or.inr ⟨rfl, p, hp, hl, e, List.mem_of_getElem? he, v⟩)
          · rw [if_neg (fun u => v ((nI_eq (by omega) (by omega)).mp u))]
            refine Or.inl ⟨(), fun hl j e2 hj he2 => ?_, rfl⟩
            by_cases u : j = k
            · subst u
              rw [he] at he2
              cases he2
              exact v
            · exact J hl j e2 (by omega) he2
    · have fr := rt.2.2.2.1 i (by omega) hi
      rw [show FU = 999999 + 1 from rfl, r_isCentre_11.eq_2, r_countOf_eq hi, fr, bind_s, if_pos (by decide), nI_1]
      exact Or.inl ⟨(), fun p hp hl => J p hp (by have := (rt.2.2.1 p hp).1; omega), rfl⟩
theorem r_remove_eq {lf : Bool} {L : List Re} {q k : Nat} (h : RP (S.1 0) (94 + 30 * q) lf L) (hq : q < 784) (hk : k < L.length) : ∃ f, r_remove S (nI q) (nI k) = some (r0 S f) ∧ RP f (94 + 30 * q) lf (L.eraseIdx k) ∧ ∀ x, x < 94 + 30 * q ∨ 94 + 30 * q + 30 ≤ x → f x = S.1 0 x := by
  have l7 := h.2.2
  have ln : (L.eraseIdx k).length = L.length - 1 := by rw [List.length_eraseIdx, if_pos hk]
  unfold r_remove
  rw [h.n hq, bind_s, show (1 : Int32) = nI 1 from rfl, pk_sub (by omega)]
  have key : ∀ (m F c : Nat) (f : Nat → Int32), m < F → c + m = L.length - 1 → k ≤ c → f (94 + 30 * q + 1) = bI (lf = true) → (∀ (j : Nat) (e : Re), j < c → (L.eraseIdx k)[j]? = some e → EC f (94 + 30 * q) j e) → (∀ (j : Nat) (e : Re), c < j → L[j]? = some e → EC f (94 + 30 * q) j e) → (∀ x, x < 94 + 30 * q ∨ 94 + 30 * q + 30 ≤ x → f x = S.1 0 x) → ∃ f', r_remove_11 F (nI q) (nI (L.length - 1)) (nI c) (r0 S f) = some (r0 S f') ∧ RP f' (94 + 30 * q) lf (L.eraseIdx k) ∧ ∀ x, x < 94 + 30 * q ∨ 94 + 30 * q + 30 ≤ x → f' x = S.1 0 x := by
    intro m
    induction m with
    | zero =>
      intro F c f hF hc hkc h2 h3 h4 h5
      obtain ⟨F, rfl⟩ : ∃ F', F = F' + 1 := ⟨F - 1, by omega⟩
      have : c = L.length - 1 := by omega
      subst this
      rw [r_remove_11.eq_2, if_pos (nI_le (Nat.le_refl _) (by omega)), r_layEntry_eq hq (by omega), bind_s, r0_0, r0_r0, show (0 : Int32) = nI 0 from rfl, r_let_eq hq (by omega), bind_s, r0_0, r0_r0]
      refine ⟨_, rfl, ⟨⟨?_, ?_⟩, fun j e he => ?_, by omega⟩, fun x hx => ?_⟩
      · rw [Nat.add_zero, upd_s, ln]
      · rw [upd_n (by omega), le4_out (by omega)]; exact h2
      · have := get_lt he
        exact (h3 j e (by omega) he).keep (fun x q1 q2 => by rw [upd_n (by omega), le4_out (by omega)])
      · rw [upd_n (by omega), le4_out (by omega)]; exact h5 x hx
    | succ m ih =>
      intro F c f hF hc hkc h2 h3 h4 h5
      obtain ⟨F, rfl⟩ : ∃ F', F = F' + 1 := ⟨F - 1, by omega⟩
      obtain ⟨e1, he1⟩ : ∃ e1, L[c + 1]? = some e1 := ⟨L[c + 1]'(by omega), List.getElem?_eq_getElem (by omega)⟩
      obtain ⟨c1, c2, c3, c4⟩ := h4 (c + 1) e1 (by omega) he1
      have ee : ∀ j : Nat, j < 4 → r_entryOf (r0 S f) (nI q) (nI (c + 1)) (nI j) = some (f (94 + 30 * q + 2 + 4 * (c + 1) + j)) := fun j hj => by rw [r_entryOf_eq hq (by omega) hj, r0_0]
      have ee0 : r_entryOf (r0 S f) (nI q) (nI (c + 1)) (nI 0) = some (f (94 + 30 * q + 2 + 4 * (c + 1))) := ee 0 (by omega)
      have ee1 := ee 1 (by omega)
      have ee2 := ee 2 (by omega)
      have ee3 := ee 3 (by omega)
      rw [r_remove_11.eq_2, if_neg (nI_ge (by omega) (by omega)), nI_1, show (0 : Int32) = nI 0 from rfl, show (1 : Int32) = nI 1 from rfl, show (2 : Int32) = nI 2 from rfl, show (3 : Int32) = nI 3 from rfl, ee0, bind_s, ee1, bind_s, ee2, bind_s, ee3, bind_s, r_layEntry_eq hq (by omega), bind_s, r0_0, r0_r0, c1, c2, c3, c4]
      refine ih F (c + 1) _ (by omega) (by omega) (by omega) ?_ (fun j e he hj => ?_) (fun j e hj he => ?_) (fun x hx => ?_)
      · rw [le4_out (by omega)]; exact h2
      · by_cases z : j = c
        · subst z
          have : (L.eraseIdx k)[j]? = L[j + 1]? := by rw [List.getElem?_eraseIdx, if_neg (by omega)]
          rw [this, he1] at hj
          cases hj
          exact le4_in
        · exact (h3 j e (by omega) hj).keep (fun x q1 q2 => le4_out (by omega))
      · exact (h4 j e (by omega) he).keep (fun x q1 q2 => le4_out (by omega))
      · rw [le4_out (by omega)]; exact h5 x hx
  have := key (L.length - 1 - k) FU k (S.1 0) (FU_gt (by omega)) (by omega) (Nat.le_refl _) h.1.2 (fun j e hj he => by
    rw [List.getElem?_eraseIdx, if_pos hj] at he
    exact h.2.1 j e he) (fun j e _ he => h.2.1 j e he) (fun _ _ => rfl)
  rw [r0_self] at this
  exact this
end FND
