def TC (f : Nat → Int32) (k : Nat) (e : Ent) : Prop := f (46 + 3 * k) = nI e.1 ∧ f (46 + 3 * k + 1) = nI e.2.1 ∧ f (46 + 3 * k + 2) = nI e.2.2
theorem TC.keep {f g : Nat → Int32} {k : Nat} {e : Ent} (h : TC f k e) (hg : ∀ x, 46 + 3 * k ≤ x → x < 46 + 3 * k + 3 → g x = f x) : TC g k e := ⟨by rw [hg _ (by omega) (by omega)]; exact h.1, by rw [hg _ (by omega) (by omega)]; exact h.2.1, by rw [hg _ (by omega) (by omega)]; exact h.2.2⟩
section DRP
variable {S : MS} {V : Vt} {π : Nat → Nat} {g : Gh} {t : Nat}
def lt3 (f : Nat → Int32) (n : Nat) (e : Ent) : Nat → Int32 := upd (upd (upd f (46 + 3 * n) (nI e.1)) (46 + 3 * n + 1) (nI e.2.1)) (46 + 3 * n + 2) (nI e.2.2)
theorem lt3_out {f : Nat → Int32} {n x : Nat} {e : Ent} (h : x < 46 + 3 * n ∨ 46 + 3 * n + 3 ≤ x) : lt3 f n e x = f x := by
  unfold lt3
  rw [upd_n (by omega), upd_n (by omega), upd_n (by omega)]
theorem lt3_in {f : Nat → Int32} {n : Nat} {e : Ent} : TC (lt3 f n e) n e := by
  unfold lt3 TC
  exact ⟨by rw [upd_n (by omega), upd_n (by omega), upd_s], by rw [upd_n (by omega), upd_s], by rw [upd_s]⟩
theorem r_fgt52 {k4 : Int32 → Int32 → Int32 → MS → Option MS} {x1 : Int32} {f : Nat → Int32} {n k : Nat} {e : Ent} (hn : n ≤ k) (hk : k < 16) (h : TC f k e) : r_forgetTold_52 k4 FU x1 (nI n) (nI k) 0 (r0 S f) = k4 x1 (nI (n + 1)) (nI (k + 1)) (r0 S (lt3 f n e)) := by
  have e46 : (46 : Int32) = nI 46 := rfl
  have e3 : (3 : Int32) = nI 3 := rfl
  have ad : ∀ (F i : Nat) (f' : Nat → Int32), i < 3 → r_forgetTold_52 k4 (F + 1) x1 (nI n) (nI k) (nI i) (r0 S f') = r_forgetTold_52 k4 F x1 (nI n) (nI k) (nI (i + 1)) (r0 S (upd f' (46 + 3 * n + i) (f' (46 + 3 * k + i)))) := fun F i f' hi => by
    rw [r_forgetTold_52.eq_2, e46, e3, if_neg (nI_ge hi (by omega)), pk_mul, pk_mul, nI_add, nI_add, nI_add, nI_add, rd_r0 (by omega), bind_s, wr_r0 (by omega), bind_s, r0_0, r0_r0, nI_1]
  rw [show FU = 999996 + 1 + 1 + 1 + 1 from rfl, show (0 : Int32) = nI 0 from rfl, ad _ 0 _ (by omega), ad _ 1 _ (by omega), ad _ 2 _ (by omega), r_forgetTold_52.eq_2, if_pos (by decide)]
  unfold r_forgetTold_95
  rw [nI_1, nI_1]
  congr 2
  unfold lt3
  obtain ⟨c1, c2, c3⟩ := h
  rw [Nat.add_zero, Nat.add_zero, c1]
  have r1 : upd f (46 + 3 * n) (nI e.1) (46 + 3 * k + 1) = nI e.2.1 := by rw [upd_n (by omega)]; exact c2
  rw [r1]
  have r2 : upd (upd f (46 + 3 * n) (nI e.1)) (46 + 3 * n + 1) (nI e.2.1) (46 + 3 * k + 2) = nI e.2.2 := by rw [upd_n (by omega), upd_n (by omega)]; exact c3
  rw [r2]
theorem r_fgt105 {n : Nat} {N : Nat} (hN : N ≤ 16) : ∀ (m F k : Nat) (f : Nat → Int32), m < F → k + m = 3 * N → 3 * n ≤ k → f 5 = nI N → ∃ f', r_forgetTold_105 F (nI n) (nI k) (r0 S f) = some (r0 S f') ∧ f' 5 = nI n ∧ ∀ x, x ≠ 5 → (x < 46 + 3 * n ∨ 94 ≤ x) → f' x = f x
  | m, 0, _, _, h, _, _, _ => absurd h (Nat.not_lt_zero m)
  | 0, F + 1, k, f, _, hk, hn, h5 => by
    have : k = 3 * N := by omega
    subst this
    rw [r_forgetTold_105.eq_2, show (5 : Int32) = nI 5 from rfl, show (3 : Int32) = nI 3 from rfl, rd_r0 (by omega), bind_s, r0_0, h5, pk_mul, if_pos (nI_le (Nat.le_refl _) (by omega)), wr_r0 (by omega), bind_s, r0_0, r0_r0]
    exact ⟨_, rfl, upd_s, fun x hx _ => upd_n hx⟩
  | m + 1, F + 1, k, f, hF, hk, hn, h5 => by
    rw [r_forgetTold_105.eq_2, show (5 : Int32) = nI 5 from rfl, show (3 : Int32) = nI 3 from rfl, rd_r0 (by omega), bind_s, r0_0, h5, pk_mul, if_neg (nI_ge (by omega) (by omega)), show (46 : Int32) = nI 46 from rfl, nI_add, wr_r0 (by omega), bind_s, r0_0, r0_r0, nI_1]
    obtain ⟨f', g1, g2, g3⟩ := r_fgt105 (n := n) hN m F (k + 1) (upd f (46 + k) 0) (by omega) (by omega) (by omega) (by rw [upd_n (by omega)]; exact h5)
    exact ⟨f', g1, g2, fun x hx hx2 => by rw [g3 x hx hx2, upd_n (by omega)]⟩
theorem r_forgetTold_eq (hv : Vw V) (h5 : S.1 0 5 = nI V.T.length) (hT : ∀ (k : Nat) (e : Ent), V.T[k]? = some e → TC (S.1 0) k e) (ht : t < 40) : ∃ f, r_forgetTold S (nI t) = some (r0 S f) ∧ f 5 = nI (V.T.filter (nt t)).length ∧ (∀ (k : Nat) (e : Ent), (V.T.filter (nt t))[k]? = some e → TC f k e) ∧ ∀ x, x ≠ 5 → (x < 46 ∨ 94 ≤ x) → f x = S.1 0 x := by
  have l16 := hv.2.2.2.1
  unfold r_forgetTold
  have e0 : (0 : Int32) = nI 0 := rfl
  have lo := lp V.T.length (fun F k (f : Nat → Int32) => r_forgetTold_4 F (nI t) (nI ((V.T.take k).filter (nt t)).length) (nI k) (r0 S f)) (fun k f => (∀ x, x < 46 ∨ 94 ≤ x → f x = S.1 0 x) ∧ (∀ (m : Nat) (e : Ent), k ≤ m → V.T[m]? = some e → TC f m e) ∧ ∀ (m : Nat) (e : Ent), ((V.T.take k).filter (nt t))[m]? = some e → TC f m e) (fun r => ∃ f, r = some (r0 S f) ∧ f 5 = nI (V.T.filter (nt t)).length ∧ (∀ (k : Nat) (e : Ent), (V.T.filter (nt t))[k]? = some e → TC f k e) ∧ ∀ x, x ≠ 5 → (x < 46 ∨ 94 ≤ x) → f x = S.1 0 x) (fun F f J => ?_) (fun F k f hk J => Or.inl ?_) V.T.length 0 FU (S.1 0) (FU_gt (by omega)) (by omega) ⟨fun _ _ => rfl, fun m e _ he => hT m e he, fun m e he => by cases he⟩
  · rw [r0_self] at lo
    exact lo
  · obtain ⟨j1, j2, j3⟩ := J
    rw [List.take_length] at j3
    show ∃ f', r_forgetTold_4 (F + 1) (nI t) (nI ((V.T.take V.T.length).filter (nt t)).length) (nI V.T.length) (r0 S f) = _ ∧ _
    have f5 : f 5 = nI V.T.length := by rw [j1 5 (by omega)]; exact h5
    have fl := filter_len (p := nt t) (T := V.T) (k := V.T.length)
    rw [List.take_length] at fl
    rw [r_forgetTold_4.eq_2, show (5 : Int32) = nI 5 from rfl, rd_r0 (by omega), bind_s, r0_0, f5, if_pos (nI_le (Nat.le_refl _) (by omega)), List.take_length, show (3 : Int32) = nI 3 from rfl, pk_mul]
    obtain ⟨f', g1, g2, g3⟩ := r_fgt105 (S := S) (n := (V.T.filter (nt t)).length) (N := V.T.length) l16 (3 * V.T.length - 3 * (V.T.filter (nt t)).length) FU (3 * (V.T.filter (nt t)).length) f (FU_gt (by omega)) (by omega) (Nat.le_refl _) f5
    refine ⟨f', g1, g2, fun k e he => ?_, fun x hx hx2 => by rw [g3 x hx (by omega)]; exact j1 x hx2⟩
    have := get_lt he
    exact (j3 k e he).keep (fun x q1 q2 => g3 x (by omega) (by omega))
  · obtain ⟨j1, j2, j3⟩ := J
    obtain ⟨e, he⟩ : ∃ e, V.T[k]? = some e := ⟨_, List.getElem?_eq_getElem hk⟩
    obtain ⟨m1, m2, m3, m4⟩ := hv.2.2.2.2.1 e (List.mem_of_getElem? he)
    have m1 := m1.1
    have m2 := m2.1
    have tc := j2 k e (Nat.le_refl _) he
    have f5 : f 5 = nI V.T.length := by rw [j1 5 (by omega)]; exact h5
    have ft := filter_take (p := nt t) he
    have fl := filter_len (p := nt t) (T := V.T) (k := k)
    show ∃ f', _ ∧ r_forgetTold_4 (F + 1) (nI t) (nI ((V.T.take k).filter (nt t)).length) (nI k) (r0 S f) = r_forgetTold_4 F (nI t) (nI ((V.T.take (k + 1)).filter (nt t)).length) (nI (k + 1)) (r0 S f')
    rw [r_forgetTold_4.eq_2, show (5 : Int32) = nI 5 from rfl, rd_r0 (by omega), bind_s, r0_0, f5, if_neg (nI_ge hk (by omega)), show (3 : Int32) = nI 3 from rfl, pk_mul, show (46 : Int32) = nI 46 from rfl, nI_add, nI_1, rd_r0 (by omega), bind_s, r0_0, tc.1, rd_r0 (by omega), bind_s, r0_0, tc.2.1]
    have skip : nt t e ≠ true → ∃ f', ((∀ x, x < 46 ∨ 94 ≤ x → f' x = S.1 0 x) ∧ (∀ (m : Nat) (e : Ent), k + 1 ≤ m → V.T[m]? = some e → TC f' m e) ∧ ∀ (m : Nat) (e : Ent), ((V.T.take (k + 1)).filter (nt t))[m]? = some e → TC f' m e) ∧ r_forgetTold_95 (r_forgetTold_4 F) (nI t) (nI ((V.T.take k).filter (nt t)).length) (nI k) (r0 S f) = r_forgetTold_4 F (nI t) (nI ((V.T.take (k + 1)).filter (nt t)).length) (nI (k + 1)) (r0 S f') := fun z => by
      rw [if_neg z, List.append_nil] at ft
      unfold r_forgetTold_95
      rw [nI_1, ft]
      exact ⟨f, ⟨j1, fun m e hm => j2 m e (by omega), j3⟩, rfl⟩
    by_cases z1 : e.1 = t
    · rw [if_pos (by rw [z1])]
      exact skip (fun y => (nt_t.mp y).1 z1)
    · rw [if_neg (fun y => z1 ((nI_eq (by omega) (by omega)).mp y))]
      by_cases z2 : e.2.1 = t
      · rw [if_pos (by rw [z2])]
        exact skip (fun y => (nt_t.mp y).2 z2)
      · rw [if_neg (fun y => z2 ((nI_eq (by omega) (by omega)).mp y)), r_fgt52 fl (by omega) tc]
        rw [if_pos (nt_t.mpr ⟨z1, z2⟩)] at ft
        rw [ft, List.length_append]
        refine ⟨lt3 f ((V.T.take k).filter (nt t)).length e, ⟨fun x hx => by rw [lt3_out (by omega)]; exact j1 x hx, fun m e2 hm he2 => (j2 m e2 (by omega) he2).keep (fun x q1 q2 => lt3_out (by omega)), fun m e2 he2 => ?_⟩, rfl⟩
        by_cases y : m < ((V.T.take k).filter (nt t)).length
        · rw [List.getElem?_append_left y] at he2
          exact (j3 m e2 he2).keep (fun x q1 q2 => lt3_out (by omega))
        · have hm := get_lt he2
          rw [List.length_append] at hm
          have hm : m < ((V.T.take k).filter (nt t)).length + 1 := hm
          have : m = ((V.T.take k).filter (nt t)).length := by omega
          subst this
          rw [List.getElem?_append_right (Nat.le_refl _), Nat.sub_self] at he2
          cases he2
          exact lt3_in
/-- the leaf of a thing, and its place there -/
theorem r_holderOf_eq (rt : RT (S.1 0) V π) (w : Wf V g V.U) (hes : ∀ p, p < V.U → ∀ e ∈ (V.P p).es, e.1 < 40) (ht : t < 40) {p0 k0 : Nat} {e0 : Ent} (hp0 : p0 < V.U) (hl0 : (V.P p0).lf = true) (he0 : (V.P p0).es[k0]? = some e0) (h0 : e0.1 = t) (hu : ∀ p, p < V.U → (V.P p).lf = true → ∀ e ∈ (V.P p).es, e.1 = t → p = p0) (hk0 : ∀ (j : Nat) (e : Ent), j < k0 → (V.P p0).es[j]? = some e → e.1 ≠ t) : r_holderOf S 0 (nI t) 1 = some (nI (π p0), pf S 14 (nI k0)) := by
  have u780 := w.u
  unfold r_holderOf
  have q0 := (rt.2.2.1 p0 hp0).1
  -- a page without the thing is passed over
  have skip : ∀ (i F : Nat), i < 784 → (∀ p, p < V.U → π p = i → (V.P p).lf = true → ∀ e ∈ (V.P p).es, e.1 ≠ t) → r_holderOf_14 (r_holderOf_3 F) FU 0 (nI t) 1 (nI i) 0 S = r_holderOf_3 F 0 (nI t) 1 (nI (i + 1)) S := by
    intro i F hi hno
    by_cases z : i < V.U
    · obtain ⟨p, hp, rfl⟩ := rt.2.2.2.2.2 i z
      obtain ⟨p1, p2⟩ := rt.2.2.1 p hp
      have l7 := p2.2.2
      rw [List.length_map] at l7
      have := lp (V.P p).es.length (fun F' k (_ : Unit) => r_holderOf_14 (r_holderOf_3 F) F' 0 (nI t) 1 (nI (π p)) (nI k) S) (fun _ _ => True) (fun r => r = r_holderOf_3 F 0 (nI t) 1 (nI (π p + 1)) S) (fun F' _ _ => ?_) (fun F' k _ hk _ => Or.inl ⟨(), trivial, ?_⟩) (V.P p).es.length 0 FU () (FU_gt (by omega)) (by omega) trivial
      · exact this
      · show r_holderOf_14 (r_holderOf_3 F) (F' + 1) 0 (nI t) 1 (nI (π p)) (nI (V.P p).es.length) S = _
        rw [r_holderOf_14.eq_2, p2.n (by omega), bind_s, List.length_map, if_pos (nI_le (Nat.le_refl _) (by omega)), nI_1]
      · obtain ⟨e, he⟩ : ∃ e, (V.P p).es[k]? = some e := ⟨_, List.getElem?_eq_getElem hk⟩
        have e40 := hes p hp e (List.mem_of_getElem? he)
        show r_holderOf_14 (r_holderOf_3 F) (F' + 1) 0 (nI t) 1 (nI (π p)) (nI k) S = r_holderOf_14 (r_holderOf_3 F) F' 0 (nI t) 1 (nI (π p)) (nI (k + 1)) S
        rw [r_holderOf_14.eq_2, p2.n (by omega), bind_s, List.length_map, if_neg (nI_ge hk (by omega)), p2.l (by omega), bind_s]
        unfold r_holderOf_60
        rw [nI_1]
        by_cases y : (V.P p).lf = true
        · rw [if_pos (by rw [bI_t y]), p2.e0 (by omega) (e := reE V π (V.P p) e) (by rw [List.getElem?_map, he]; rfl), bind_s]
          have ne := hno p hp rfl y e (List.mem_of_getElem? he)
          exact if_neg (fun (u : nI e.1 = nI t) => ne ((nI_eq (by omega) (by omega)).mp u))
        · rw [if_neg (by rw [bI_f y]; decide)]
    · have fr := rt.2.2.2.1 i (by omega) hi
      rw [show FU = 999999 + 1 from rfl, r_holderOf_14.eq_2, r_countOf_eq hi, fr, bind_s, if_pos (by decide), nI_1]
  have out : ∀ (m F i : Nat), m < F → i + m = π p0 → r_holderOf_3 F 0 (nI t) 1 (nI i) S = some (nI (π p0), pf S 14 (nI k0)) := by
    intro m
    induction m with
    | zero =>
      intro F i hF hi
      obtain ⟨F, rfl⟩ : ∃ F', F = F' + 1 := ⟨F - 1, by omega⟩
      have : i = π p0 := by omega
      subst this
      obtain ⟨p1, p2⟩ := rt.2.2.1 p0 hp0
      have l7 := p2.2.2
      rw [List.length_map] at l7
      have hk := get_lt he0
      rw [r_holderOf_3.eq_2, show (784 : Int32) = nI 784 from rfl, if_neg (nI_ge (by omega) (by omega))]
      have := lp k0 (fun F' k (_ : Unit) => r_holderOf_14 (r_holderOf_3 F) F' 0 (nI t) 1 (nI (π p0)) (nI k) S) (fun _ _ => True) (fun r => r = some (nI (π p0), pf S 14 (nI k0))) (fun F' _ _ => ?_) (fun F' k _ hk _ => Or.inl ⟨(), trivial, ?_⟩) k0 0 FU () (FU_gt (by omega)) (by omega) trivial
      · exact this
      · show r_holderOf_14 (r_holderOf_3 F) (F' + 1) 0 (nI t) 1 (nI (π p0)) (nI k0) S = _
        rw [r_holderOf_14.eq_2, p2.n (by omega), bind_s, List.length_map, if_neg (nI_ge hk (by omega)), p2.l (by omega), bind_s, if_pos (by rw [bI_t hl0]), p2.e0 (by omega) (e := reE V π (V.P p0) e0) (by rw [List.getElem?_map, he0]; rfl), bind_s]
        exact if_pos (congrArg nI h0)
      · obtain ⟨e, he⟩ : ∃ e, (V.P p0).es[k]? = some e := ⟨_, List.getElem?_eq_getElem (by omega)⟩
        have e40 := hes p0 hp0 e (List.mem_of_getElem? he)
        show r_holderOf_14 (r_holderOf_3 F) (F' + 1) 0 (nI t) 1 (nI (π p0)) (nI k) S = r_holderOf_14 (r_holderOf_3 F) F' 0 (nI t) 1 (nI (π p0)) (nI (k + 1)) S
        rw [r_holderOf_14.eq_2, p2.n (by omega), bind_s, List.length_map, if_neg (nI_ge (by omega) (by omega)), p2.l (by omega), bind_s, if_pos (by rw [bI_t hl0]), p2.e0 (by omega) (e := reE V π (V.P p0) e) (by rw [List.getElem?_map, he]; rfl), bind_s]
        unfold r_holderOf_60
        rw [nI_1]
        have ne := hk0 k e hk he
        exact if_neg (fun (u : nI e.1 = nI t) => ne ((nI_eq (by omega) (by omega)).mp u))
    | succ m ih =>
      intro F i hF hi
      obtain ⟨F, rfl⟩ : ∃ F', F = F' + 1 := ⟨F - 1, by omega⟩
      rw [r_holderOf_3.eq_2, show (784 : Int32) = nI 784 from rfl, if_neg (nI_ge (by omega) (by omega)), skip i F (by omega) (fun p hp hpi hl e he hh => by
        have := hu p hp hl e he hh
        subst this
        omega)]
      exact ih F (i + 1) (by omega) (by omega)
  exact out (π p0) FU 0 (FU_gt (by omega)) (by omega)
end DRP
