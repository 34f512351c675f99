section LOOK
variable {S0 : MS} {V : Vt} {g : Gh} {π : Nat → Nat} {dq : Nat → Nat} {fa : Bool} {most lk : Nat} {T : List Nat}
theorem o2i_m1 {lm : Option Nat} (h : ∀ l, lm = some l → l < 2 ^ 31) : o2i lm = -1 ↔ lm = none := by
  cases lm with
  | none => exact ⟨fun _ => rfl, fun _ => rfl⟩
  | some l => exact ⟨fun y => ((nI_m1 (h l rfl)).mp y).elim, fun y => (by cases y)⟩
theorem r_spared {S : MS} {p k : Nat} {e : Ent} {way : Int32} {lm : Option Nat} (rt : RT (S.1 0) V π) (hv : Vw V) (w : Wf V g V.U) (hd : ∀ t, dq t ≤ 99) (hp : p < V.U) (he : (V.P p).es[k]? = some e) (hway : (∀ c, (V.P p).ce = some c → way = nI (dq c)) ∧ ((V.P p).ce = none → way = -1)) (hl : ∀ l, lm = some l → l ≤ 99) : (spd V dq fa lm p e → r_isSpared S (nI (π p)) (nI k) way (o2i lm) (bI (fa = true)) = some 1) ∧ (¬ spd V dq fa lm p e → r_isSpared S (nI (π p)) (nI k) way (o2i lm) (bI (fa = true)) = some 0) := by
  have u := w.u
  obtain ⟨p1, rp⟩ := rt.2.2.1 p hp
  have he' : ((V.P p).es.map (reE V π (V.P p)))[k]? = some (reE V π (V.P p) e) := by rw [List.getElem?_map, he]; rfl
  have r9 := (w.es hp e (List.mem_of_getElem? he)).2
  unfold r_isSpared spd
  cases hc : (V.P p).ce with
  | none =>
    rw [hway.2 hc, if_pos rfl]
    exact ⟨fun ⟨c, l, h, _⟩ => (by cases h), fun _ => rfl⟩
  | some c =>
    have d9 := hd c
    have f9 := far_le hv c e.1
    rw [hway.1 c hc, if_neg (fun y => (nI_m1 (by omega)).mp y)]
    cases lm with
    | none =>
      rw [if_pos (show o2i none = -1 from rfl)]
      exact ⟨fun ⟨c, l, _, h, _⟩ => (by cases h), fun _ => rfl⟩
    | some l =>
      have l9 := hl l rfl
      have e2 : r_entryOf S (nI (π p)) (nI k) 2 = some (nI (far V c e.1)) := by
        rw [rp.e2 (by omega) he']
        show some (nI (wy V (V.P p) e.1)) = _
        unfold wy
        rw [hc]
      have e1 : r_entryOf S (nI (π p)) (nI k) 1 = some (nI e.2.1) := rp.e1 (by omega) he'
      rw [if_neg (show ¬ o2i (some l) = -1 from fun y => (nI_m1 (by omega)).mp y), e2, bind_s, e1, bind_s]
      show ((∃ c' l', some c = some c' ∧ some l = some l' ∧ _) → (if bI (fa = true) = 0 then _ else if nI l ≤ _ then _ else _) = _) ∧ (¬ (∃ c' l', some c = some c' ∧ some l = some l' ∧ _) → (if bI (fa = true) = 0 then _ else if nI l ≤ _ then _ else _) = _)
      have ex : ∀ (P : Nat → Nat → Prop), (∃ c' l', some c = some c' ∧ some l = some l' ∧ P c' l') ↔ P c l := fun P => ⟨fun ⟨c', l', h1, h2, h3⟩ => by cases h1; cases h2; exact h3, fun h => ⟨c, l, rfl, rfl, h⟩⟩
      rw [ex (fun c l => if fa = true then dq c + far V c e.1 + e.2.1 < l else l + e.2.1 < dq c - far V c e.1 + (far V c e.1 - dq c)), bI_0']
      cases fa with
      | false =>
        rw [if_neg (show ¬ false = true by decide), if_pos (by decide), r_size_sub (by omega) (by omega), bind_s]
        show (_ → (if nI _ ≤ nI e.2.1 + nI l then _ else _) = _) ∧ (_ → (if nI _ ≤ nI e.2.1 + nI l then _ else _) = _)
        rw [nI_add]
        refine ⟨fun h => ?_, fun h => ?_⟩
        · rw [if_neg (nI_ge (by omega) (by omega))]; rfl
        · rw [if_pos (nI_le (by omega) (by omega))]; rfl
      | true =>
        rw [if_pos rfl, if_neg (by decide), nI_add, nI_add]
        show (_ → (if nI l ≤ _ then _ else _) = _) ∧ (_ → (if nI l ≤ _ then _ else _) = _)
        refine ⟨fun h => ?_, fun h => ?_⟩
        · rw [if_neg (nI_ge (by omega) (by omega))]; rfl
        · rw [if_pos (nI_le (by omega) (by omega))]; rfl
theorem r_queue_eq {S : MS} {X : Xs} {c bd : Nat} {wy : Int32} (h : RX S0 V π dq lk T S X) (hq : X.2.2.2.2.length < 784) (cT : c ∉ T) : ∃ S', r_queue S (nI (π c)) (nI bd) wy = some S' ∧ RX S0 V π dq lk T S' (X.1, X.2.1, X.2.2.1, X.2.2.2.1, X.2.2.2.2 ++ [(c, bd, wy)]) := by
  obtain ⟨⟨rt, qr, rz, s33⟩, ⟨kr, n1, n2, n3⟩, rf, wq⟩ := h
  unfold r_queue
  rw [wq.1, wr_ok (by rw [len17.2.2.1]; exact hq) (by omega), bind_s]
  show ∃ S', (wr (_, S.2) 20 (S.2 37) _).bind _ = _ ∧ _
  rw [wq.1, wr_ok (by rw [len17.2.2.2.1]; exact hq) (by omega), bind_s]
  show ∃ S', (wr (_, S.2) 21 (S.2 37) _).bind _ = _ ∧ _
  rw [wq.1, wr_ok (by rw [len17.2.2.2.2]; exact hq) (by omega), bind_s]
  obtain ⟨A, hA⟩ : ∃ A : Nat → Nat → Int32, up2 (up2 (up2 S.1 19 X.2.2.2.2.length (nI (π c))) 20 X.2.2.2.2.length (nI bd)) 21 X.2.2.2.2.length wy = A := ⟨_, rfl⟩
  have An : ∀ j, j ≠ 19 → j ≠ 20 → j ≠ 21 → A j = S.1 j := fun j h1 h2 h3 => by
    rw [← hA, up2_r h3, up2_r h2, up2_r h1]
  have Ai : ∀ i, i ≠ X.2.2.2.2.length → A 19 i = S.1 19 i ∧ A 20 i = S.1 20 i ∧ A 21 i = S.1 21 i := fun i hi => by
    rw [← hA]
    refine ⟨?_, ?_, ?_⟩ <;> rw [up2_n (fun q => by omega), up2_n (fun q => by omega), up2_n (fun q => by omega)]
  have Av : A 19 X.2.2.2.2.length = nI (π c) ∧ A 20 X.2.2.2.2.length = nI bd ∧ A 21 X.2.2.2.2.length = wy := by
    rw [← hA]
    refine ⟨?_, ?_, ?_⟩
    · rw [up2_j (by decide), up2_j (by decide), up2_s]
    · rw [up2_j (by decide), up2_s]
    · rw [up2_s]
  refine ⟨pf (A, S.2) 37 (nI (X.2.2.2.2.length + 1)), ?_, ⟨?_, ?_, ⟨fun j hj => ?_, fun k hk => ?_⟩, ?_⟩, ⟨fun t ht => ?_, ?_, ?_, ?_⟩, ⟨?_, rf.2.1, fun i t hi => ?_⟩, ?_, fun i x hx => ?_⟩
  · rw [← hA]
    show some (pf _ 37 (S.2 37 + 1)) = _
    rw [wq.1, nI_1]
  · rw [pf_1]; show RT (A 0) V π; rw [An 0 (by decide) (by decide) (by decide)]; exact rt
  · unfold Qrf; rw [pf_n (by decide), pf_n (by decide)]; exact qr
  · rw [pf_1]; show A j = _; rw [An j (by omega) (by omega) (by omega)]; exact rz.1 j hj
  · rw [pf_n (by omega)]; exact rz.2 k hk
  · rw [pf_n (by decide)]; exact s33
  · rw [pf_1]; show A 17 t = _; rw [An 17 (by decide) (by decide) (by decide)]; exact kr t ht
  · rw [pf_n (by decide)]; exact n1
  · rw [pf_n (by decide)]; exact n2
  · rw [pf_n (by decide)]; exact n3
  · rw [pf_n (by decide)]; exact rf.1
  · rw [pf_1]; show A 18 i = _; rw [An 18 (by decide) (by decide) (by decide)]; exact rf.2.2 i t hi
  · rw [pf_s]
    show _ = nI (X.2.2.2.2 ++ [(c, bd, wy)]).length
    rw [List.length_append]; rfl
  · have hx : (X.2.2.2.2 ++ [(c, bd, wy)])[i]? = some x := hx
    rw [pf_1]
    show A 19 i = _ ∧ A 20 i = _ ∧ A 21 i = _
    by_cases z : i < X.2.2.2.2.length
    · rw [List.getElem?_append_left z] at hx
      obtain ⟨a1, a2, a3⟩ := Ai i (by omega)
      rw [a1, a2, a3]
      exact wq.2 i x hx
    · have zl : i = X.2.2.2.2.length := by
        have := (List.getElem?_eq_some_iff.mp hx).1
        rw [List.length_append] at this
        simp at this
        omega
      subst zl
      rw [List.getElem?_append_right (Nat.le_refl _), Nat.sub_self] at hx
      have : (c, bd, wy) = x := by simpa using hx
      subst this
      rw [if_neg cT]
      exact Av
/-- one entry, by the reference -/
theorem r_entry1 {S : MS} {X X' : Xs} {p k F : Nat} {e : Ent} {way : Int32} (h : RX S0 V π dq lk T S X) (pi : PI V g dq fa T X) (hv : Vw V) (w : Wf V g V.U) (hd : ∀ t, dq t ≤ 99) (hm : 1 ≤ most ∧ most ≤ 40) (hp : p < V.U) (he : (V.P p).es[k]? = some e) (hway : (∀ c, (V.P p).ce = some c → way = nI (dq c)) ∧ ((V.P p).ce = none → way = -1)) (hlf : (V.P p).lf = true → e.1 ∉ X.2.2.2.1) (hin : (V.P p).lf = false → e.2.2 ∉ qpg X.2.2.2.2 ∧ e.2.2 ∉ T) (s : Stq V dq fa false most 0 p e X X') : ∃ S', r_lookInto_13 (F + 1) (nI (π p)) way (nI most) (bI (fa = true)) (nI k) S = r_lookInto_13 F (nI (π p)) way (nI most) (bI (fa = true)) (nI (k + 1)) S' ∧ RX S0 V π dq lk T S' X' := by
  have u := w.u
  obtain ⟨⟨rt, qr, rz, s33⟩, ⟨kr, n1, n2, n3⟩, rf, wr⟩ := id h
  obtain ⟨p1, rp⟩ := rt.2.2.1 p hp
  have l7 := rp.2.2
  rw [List.length_map] at l7
  have kl := (List.getElem?_eq_some_iff.mp he).1
  have he' : ((V.P p).es.map (reE V π (V.P p)))[k]? = some (reE V π (V.P p) e) := by rw [List.getElem?_map, he]; rfl
  have hse := ((w.2.1 p hp).2.1 e (List.mem_of_getElem? he)).1
  have r9 := (w.es hp e (List.mem_of_getElem? he)).2
  have d9 := hd e.1
  have l99 : ∀ l, lmt dq false most 0 X.2.2.2.1 = some l → l ≤ 99 := fun l hl => lmt_le hd hl (by omega)
  obtain ⟨sp1, sp0⟩ := r_spared (fa := fa) (lm := lmt dq false most 0 X.2.2.2.1) rt hv w hd hp he hway l99
  rw [r_lookInto_13.eq_2, rp.n (by omega), bind_s, List.length_map, if_neg (nI_ge kl (by omega)), r_limit kr rf pi.2.2.1 hm, bind_s]
  unfold r_lookInto_183
  rcases s with ⟨z, rfl⟩ | ⟨z, s⟩
  · rw [sp1 z, bind_s, if_neg (by decide), nI_1]
    refine ⟨_, rfl, ⟨rt, ?_, ⟨rz.1, fun k hk => ?_⟩, ?_⟩, ⟨kr, ?_, ?_, ?_⟩, ⟨?_, rf.2⟩, ?_, wr.2⟩
    · unfold Qrf; rw [pf_n (by decide), pf_n (by decide)]; exact qr
    · rw [pf_n (by omega)]; exact rz.2 k hk
    · rw [pf_n (by decide)]; exact s33
    · rw [pf_n (by decide)]; exact n1
    · rw [pf_s, n2, nI_1]
    · rw [pf_n (by decide)]; exact n3
    · rw [pf_n (by decide)]; exact rf.1
    · rw [pf_n (by decide)]; exact wr.1
  · obtain ⟨S9, g1, g2, g3, g4, g5⟩ := r_wayTo_eq rt.1 hv qr kr n1 hse d9
    have rt9 : RT (S9.1 0) V π := by rw [g4 0 (by decide) (by decide) (by decide)]; exact rt
    have rp9 := (rt9.2.2.1 p hp).2
    have kk : ∀ c, X.1 c = true → kup X.1 e.1 c = true := fun c hc => by unfold kup; split <;> first | rfl | exact hc
    have hR9 : ∀ x ∈ X.2.2.2.1, hs V x ∧ kup X.1 e.1 x = true := fun x hx => ⟨(pi.2.2.1 x hx).1, kk x (pi.2.2.1 x hx).2⟩
    have rf9 : Rf S9 X.2.2.2.1 := ⟨by rw [g5 26 (by decide)]; exact rf.1, rf.2.1, fun i t hi => by rw [g4 18 (by decide) (by decide) (by decide)]; exact rf.2.2 i t hi⟩
    have rx9 : RX S0 V π dq lk T S9 (kup X.1 e.1, X.2.1 + (if X.1 e.1 = true then 0 else 1), X.2.2.1, X.2.2.2.1, X.2.2.2.2) := by
      refine ⟨⟨rt9, ?_, rz.tr ⟨fun j hj => g4 j (by omega) (by omega) (by omega), fun k hk => g5 k (by omega)⟩, by rw [g5 33 (by decide)]; exact s33⟩, ⟨g2, g3, by rw [g5 28 (by decide)]; exact n2, by rw [g5 29 (by decide)]; exact n3⟩, rf9, by rw [g5 37 (by decide)]; exact wr.1, fun i x hx => ?_⟩
      · unfold Qrf; rw [g5 30 (by decide), g5 31 (by decide)]; exact qr
      · rw [g4 19 (by decide) (by decide) (by decide), g4 20 (by decide) (by decide) (by decide), g4 21 (by decide) (by decide) (by decide)]
        exact wr.2 i x hx
    have e0 : r_entryOf S (nI (π p)) (nI k) 0 = some (nI e.1) := rp.e0 (by omega) he'
    rw [sp0 z, bind_s, if_pos rfl, e0, bind_s, g1, bd2_s, rp9.l (by omega), bind_s, bI_0']
    have inner : (V.P p).lf = false → ∀ Y : MS → Option MS, (r_entryOf S9 (nI (π p)) (nI k) 1).bind (fun v11 => if bI (fa = true) = 0 then if nI (dq e.1) ≤ v11 then r_lookInto_130 (r_lookInto_13 F) (nI (π p)) way (nI most) (bI (fa = true)) (nI k) (nI (dq e.1)) 0 S9 else r_lookInto_130 (r_lookInto_13 F) (nI (π p)) way (nI most) (bI (fa = true)) (nI k) (nI (dq e.1)) (nI (dq e.1) - v11) S9 else r_lookInto_130 (r_lookInto_13 F) (nI (π p)) way (nI most) (bI (fa = true)) (nI k) (nI (dq e.1)) (nI (dq e.1) + v11) S9) = r_lookInto_130 (r_lookInto_13 F) (nI (π p)) way (nI most) (bI (fa = true)) (nI k) (nI (dq e.1)) (nI (bdn dq fa e)) S9 := fun hl Y => by
      rw [show r_entryOf S9 (nI (π p)) (nI k) 1 = some (nI e.2.1) from rp9.e1 (by omega) he', bind_s, bI_0']
      unfold bdn
      cases fa with
      | false =>
        rw [if_pos (by decide), if_neg (show ¬ false = true by decide)]
        by_cases y : dq e.1 ≤ e.2.1
        · rw [if_pos (nI_le y (by omega)), show dq e.1 - e.2.1 = 0 by omega]; rfl
        · rw [if_neg (nI_ge (by omega) (by omega)), pk_sub (by omega)]
      | true => rw [if_neg (by decide), if_pos rfl, nI_add]
    have b31 : bdn dq fa e < 2 ^ 31 := by unfold bdn; split <;> omega
    have limc : ∀ Y1 Y2 : Option MS, (r_limitOf S9 (nI most)).bind (fun v3 => if v3 = -1 then Y1 else if bI (fa = true) = 0 then if v3 < nI (bdn dq fa e) then Y2 else Y1 else if nI (bdn dq fa e) < v3 then Y2 else Y1) = if o2i (lmt dq false most 0 X.2.2.2.1) = -1 then Y1 else if bI (fa = true) = 0 then if o2i (lmt dq false most 0 X.2.2.2.1) < nI (bdn dq fa e) then Y2 else Y1 else if nI (bdn dq fa e) < o2i (lmt dq false most 0 X.2.2.2.1) then Y2 else Y1 := fun Y1 Y2 => by
      rw [r_limit (S := S9) (X := (kup X.1 e.1, X.2.1 + (if X.1 e.1 = true then 0 else 1), X.2.2.1, X.2.2.2.1, X.2.2.2.2)) g2 rf9 hR9 hm, bind_s]
    have pick : ∀ Y1 Y2 : Option MS, (byd fa (lmt dq false most 0 X.2.2.2.1) (bdn dq fa e) → (r_limitOf S9 (nI most)).bind (fun v3 => if v3 = -1 then Y1 else if bI (fa = true) = 0 then if v3 < nI (bdn dq fa e) then Y2 else Y1 else if nI (bdn dq fa e) < v3 then Y2 else Y1) = Y2) ∧ (¬ byd fa (lmt dq false most 0 X.2.2.2.1) (bdn dq fa e) → (r_limitOf S9 (nI most)).bind (fun v3 => if v3 = -1 then Y1 else if bI (fa = true) = 0 then if v3 < nI (bdn dq fa e) then Y2 else Y1 else if nI (bdn dq fa e) < v3 then Y2 else Y1) = Y1) := fun Y1 Y2 => by
      rw [limc, bI_0']
      unfold byd
      cases q : lmt dq false most 0 X.2.2.2.1 with
      | none =>
        rw [if_pos (show o2i none = -1 from rfl)]
        exact ⟨fun ⟨l, h, _⟩ => (by cases h), fun _ => rfl⟩
      | some l =>
        have l9 := l99 l q
        rw [if_neg (show ¬ o2i (some l) = -1 from fun y => (nI_m1 (by omega)).mp y)]
        have ex : ∀ (P : Nat → Prop), (∃ l', some l = some l' ∧ P l') ↔ P l := fun P => ⟨fun ⟨l', h1, h2⟩ => by cases h1; exact h2, fun h => ⟨l, rfl, h⟩⟩
        rw [ex (fun l => ba fa l (bdn dq fa e))]
        show (_ → (if _ then if nI l < _ then _ else _ else if _ < nI l then _ else _) = _) ∧ (_ → (if _ then if nI l < _ then _ else _ else if _ < nI l then _ else _) = _)
        cases fa with
        | false =>
          rw [ba_f, if_pos (by decide)]
          exact ⟨fun h => if_pos (nI_lt h b31), fun h => if_neg (nI_nlt (by omega) (by omega))⟩
        | true =>
          rw [ba_t, if_neg (by decide)]
          exact ⟨fun h => if_pos (nI_lt h (by omega)), fun h => if_neg (nI_nlt (by omega) b31)⟩
    rcases s with ⟨hl, -, c, ⟨c0, c1, c2⟩, rfl⟩ | ⟨-, ⟨y, -⟩, -⟩ | ⟨hl, nb, rfl⟩ | ⟨hl, nb, rfl⟩
    · -- a leaf's thing is found
      obtain ⟨S1, f1, f2, f3⟩ := r_find_eq (fa := fa) (S := S9) (R := X.2.2.2.1) g2 hd rf9 (fun x hx => ⟨(hR9 x hx).1.1, (hR9 x hx).2⟩) hse.1 (if_pos rfl) (pi.r39 hse.1 (hlf hl)) c0 c1 c2
      rw [if_neg (by rw [hl]; decide), f1, bind_s, nI_1]
      obtain ⟨⟨rt9, qr9, rz9, s339⟩, ⟨kr9, m1, m2, m3⟩, -, wr9⟩ := rx9
      refine ⟨S1, rfl, ⟨by rw [f3.1 0 (by decide)]; exact rt9, ?_, rz9.tr ⟨fun j hj => f3.1 j (by omega), fun k hk => f3.2 k (by omega)⟩, by rw [f3.2 33 (by decide)]; exact s339⟩, ⟨fun t ht => by rw [f3.1 17 (by decide)]; exact kr9 t ht, by rw [f3.2 27 (by decide)]; exact m1, by rw [f3.2 28 (by decide)]; exact m2, by rw [f3.2 29 (by decide)]; exact m3⟩, f2, by rw [f3.2 37 (by decide)]; exact wr9.1, fun i x hx => ?_⟩
      · unfold Qrf; rw [f3.2 30 (by decide), f3.2 31 (by decide)]; exact qr9
      · rw [f3.1 19 (by decide), f3.1 20 (by decide), f3.1 21 (by decide)]
        exact wr9.2 i x hx
    · cases y
    · -- the page below waits
      obtain ⟨c1, -⟩ := ((w.2.1 p hp).2.1 e (List.mem_of_getElem? he)).2.2.1 hl
      have e3 : r_entryOf S9 (nI (π p)) (nI k) 3 = some (nI (π e.2.2)) := by
        rw [rp9.e3 (by omega) he']
        unfold reE
        rw [if_neg (by rw [hl]; decide)]
      have ql := pi.1.len w
      obtain ⟨S1, f1, f2⟩ := r_queue_eq (bd := bdn dq fa e) (wy := nI (dq e.1)) rx9 (show X.2.2.2.2.length < 784 by omega) (hin hl).2
      rw [if_pos (by rw [hl]; decide), inner hl (fun S => some S)]
      unfold r_lookInto_130 r_lookInto_167 r_lookInto_183
      rw [(pick _ _).2 nb, e3, bind_s, f1, bind_s, nI_1]
      exact ⟨S1, rfl, f2⟩
    · rw [if_pos (by rw [hl]; decide), inner hl (fun S => some S)]
      unfold r_lookInto_130 r_lookInto_167 r_lookInto_183
      rw [(pick _ _).1 nb, nI_1]
      exact ⟨S9, rfl, rx9⟩
end LOOK
