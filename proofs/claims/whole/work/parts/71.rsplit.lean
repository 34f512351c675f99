-- the reference's splitting
/-- outside these pages of the reference's row nothing is changed -/
def Cq (P : Nat → Prop) (f g : Nat → Int32) : Prop := ∀ x, (∀ q, P q → x < 94 + 30 * q ∨ 94 + 30 * q + 30 ≤ x) → g x = f x
theorem Cq.rfl {P : Nat → Prop} {f : Nat → Int32} : Cq P f f := fun _ _ => Eq.refl _
theorem Cq.tr {P : Nat → Prop} {f g h : Nat → Int32} (a : Cq P f g) (b : Cq P g h) : Cq P f h := fun x hx => (b x hx).trans (a x hx)
theorem Cq.mono {P Q : Nat → Prop} {f g : Nat → Int32} (a : Cq P f g) (h : ∀ q, P q → Q q) : Cq Q f g := fun x hx => a x (fun q hq => hx q (h q hq))
theorem Cq.rp {P : Nat → Prop} {f g : Nat → Int32} (a : Cq P f g) {q : Nat} {lf : Bool} {L : List Re} (h : RP f (94 + 30 * q) lf L) (hq : ¬ P q) : RP g (94 + 30 * q) lf L := h.keep (fun x h1 h2 => a x (fun r hr => by
  have : r ≠ q := fun z => hq (z ▸ hr)
  omega))
theorem Cq.rw {P : Nat → Prop} {f g : Nat → Int32} (a : Cq P f g) {V : Vt} (hv : Vw V) (h : RW f 2 V) : RW g 2 V := by
  have lo : ∀ x, x < 94 → g x = f x := fun x hx => a x (fun q _ => Or.inl (by omega))
  obtain ⟨⟨h1, h2, h3⟩, h4, h5⟩ := h
  refine ⟨⟨by rw [lo _ (by omega)]; exact h1, by rw [lo _ (by omega)]; exact h2, by rw [lo _ (by omega)]; exact h3⟩, fun t ht => by rw [lo _ (by omega)]; exact h4 t ht, fun k e he => ?_⟩
  have := get_lt he
  have := hv.2.2.2.1
  rw [lo _ (by omega), lo _ (by omega), lo _ (by omega)]
  exact h5 k e he
theorem Cq.le4 {P : Nat → Prop} {f : Nat → Int32} {q k : Nat} {t r w v : Int32} (hq : P q) (hk : k < 7) : Cq P f (le4 f (94 + 30 * q) k t r w v) := fun x hx => le4_out (by have := hx q hq; omega)
theorem Cq.up {P : Nat → Prop} {f : Nat → Int32} {q k : Nat} {v : Int32} (hq : P q) (hk : k < 30) : Cq P f (upd f (94 + 30 * q + k) v) := fun x hx => upd_n (by have := hx q hq; omega)
section RSP
variable {S : MS} {V : Vt} {a u b : Nat} {lf : Bool} {L : List Re}
/-- the way of an entry is set -/
theorem RP.let2 {f : Nat → Int32} {q k w : Nat} {e : Re} (h : RP f (94 + 30 * q) lf L) (he : L[k]? = some e) : RP (upd f (94 + 30 * q + 2 + 4 * k + 2) (nI w)) (94 + 30 * q) lf (L.set k (e.1, e.2.1, w, e.2.2.2)) := by
  have hk := get_lt he
  obtain ⟨⟨h1, h2⟩, h3, h4⟩ := h
  refine ⟨⟨by rw [upd_n (by omega), List.length_set]; exact h1, by rw [upd_n (by omega)]; exact h2⟩, fun j e2 he2 => ?_, by rw [List.length_set]; exact h4⟩
  rw [List.getElem?_set] at he2
  by_cases z : k = j
  · rw [if_pos z, if_pos hk] at he2
    cases he2
    subst z
    obtain ⟨c1, c2, c3, c4⟩ := h3 k e he
    exact ⟨by rw [upd_n (by omega)]; exact c1, by rw [upd_n (by omega)]; exact c2, by rw [upd_s], by rw [upd_n (by omega)]; exact c4⟩
  · rw [if_neg z] at he2
    have := get_lt he2
    exact (h3 j e2 he2).keep (fun x q1 q2 => upd_n (by omega))
theorem RP.let1 {f : Nat → Int32} {q k r : Nat} {e : Re} (h : RP f (94 + 30 * q) lf L) (he : L[k]? = some e) : RP (upd f (94 + 30 * q + 2 + 4 * k + 1) (nI r)) (94 + 30 * q) lf (L.set k (e.1, r, e.2.2.1, e.2.2.2)) := by
  have hk := get_lt he
  obtain ⟨⟨h1, h2⟩, h3, h4⟩ := h
  refine ⟨⟨by rw [upd_n (by omega), List.length_set]; exact h1, by rw [upd_n (by omega)]; exact h2⟩, fun j e2 he2 => ?_, by rw [List.length_set]; exact h4⟩
  rw [List.getElem?_set] at he2
  by_cases z : k = j
  · rw [if_pos z, if_pos hk] at he2
    cases he2
    subst z
    obtain ⟨c1, c2, c3, c4⟩ := h3 k e he
    exact ⟨by rw [upd_n (by omega)]; exact c1, by rw [upd_s], by rw [upd_n (by omega)]; exact c3, by rw [upd_n (by omega)]; exact c4⟩
  · rw [if_neg z] at he2
    have := get_lt he2
    exact (h3 j e2 he2).keep (fun x q1 q2 => upd_n (by omega))
theorem pik_map {α : Type} {f : Nat → Bool} {g : α → α} : ∀ {l m : List α} {n : Nat}, m.length = l.length → (∀ (k : Nat) (e : α), l[k]? = some e → f (n + k) = true → m[k]? = some (g e)) → pik f n m = (pik f n l).map g
  | [], [], _, _, _ => rfl
  | [], _ :: _, _, h, _ => by cases h
  | _ :: _, [], _, h, _ => by cases h
  | x :: l, y :: m, n, h, hk => by
    have ih := pik_map (f := f) (g := g) (l := l) (m := m) (n := n + 1) (by simpa using h) (fun k e he hf => by
      have := hk (k + 1) e (by simpa using he) (by rw [← hf]; congr 1; omega)
      simpa using this)
    unfold pik
    by_cases z : f n = true
    · rw [if_pos z, if_pos z, ih, List.map_cons]
      have := hk 0 x rfl z
      cases this
      rfl
    · rw [if_neg z, if_neg z, ih]
/-- ways are set anew -/
def wset (V : Vt) (c : Nat) (e : Re) : Re := (e.1, e.2.1, far V c e.1, e.2.2.2)
/-- rows and numbers that the splitting leaves -/
def Sq (P : Nat → Prop) (S T : MS) : Prop := Rn Ra Rb S T ∧ Cq P (S.1 0) (T.1 0)
theorem Sq.tr {P : Nat → Prop} {S T U : MS} (h : Sq P S T) (g : Sq P T U) : Sq P S U := ⟨h.1.tr g.1, h.2.tr g.2⟩
theorem Sq.s2 {P : Nat → Prop} {S T : MS} (h : S2 S T) : Sq P S T := ⟨Rn.s2 h (Or.inr (Or.inl rfl)) (Or.inr (Or.inr (Or.inl rfl))), by rw [h.r (by decide) (by decide)]; exact Cq.rfl⟩
theorem Sq.r0 {P : Nat → Prop} {S : MS} {g : Nat → Int32} (h : Cq P (S.1 0) g) : Sq P S (r0 S g) := ⟨Rn.r0 (Or.inl rfl), by rw [r0_0]; exact h⟩
/-- what stays while ways are set -/
def Wy (P : Nat → Prop) (S T : MS) : Prop := Sq P S T ∧ T.1 7 = S.1 7 ∧ T.2 = S.2
theorem Wy.tr {P : Nat → Prop} {S T U : MS} (h : Wy P S T) (g : Wy P T U) : Wy P S U := ⟨h.1.tr g.1, g.2.1.trans h.2.1, g.2.2.trans h.2.2⟩
theorem Wy.s2 {P : Nat → Prop} {S T : MS} (h : S2 S T) : Wy P S T := ⟨Sq.s2 h, h.r (by decide) (by decide), h.f⟩
theorem Wy.r0 {P : Nat → Prop} {S : MS} {g : Nat → Int32} (h : Cq P (S.1 0) g) : Wy P S (r0 S g) := ⟨Sq.r0 h, r0_j (by decide), r0_f⟩
theorem Wy.rfl {P : Nat → Prop} {S : MS} : Wy P S S := ⟨⟨Rn.rfl, Cq.rfl⟩, Eq.refl _, Eq.refl _⟩
/-- the first loop: ways -/
theorem r_split43 {x2 x3 x4 x7 : Int32} {f : Nat → Bool} {one two : Nat} (hv : Vw V) (ha : a < 784) (h1 : hs V one) (h2 : hs V two) (hh : ∀ e ∈ L, hs V e.1) : ∀ (m F k : Nat) (T : MS) (cu : List Re), m < F → k + m = L.length → RW (T.1 0) 2 V → RP (T.1 0) (94 + 30 * a) lf cu → cu.length = L.length → (∀ (i : Nat) (e : Re), L[i]? = some e → cu[i]? = some (if i < k then wset V (if f i = true then two else one) e else e)) → (∀ i, i < L.length → T.1 7 i = bI (f i = true)) → ∃ T' cu', r_split_43 F (nI a) x2 x3 x4 (nI one) (nI two) x7 (nI k) T = r_split_117 FU (nI a) x2 x3 x4 (nI one) (nI two) x7 (nI L.length) 0 0 T' ∧ Wy (fun q => q = a) T T' ∧ RP (T'.1 0) (94 + 30 * a) lf cu' ∧ cu'.length = L.length ∧ (∀ (i : Nat) (e : Re), L[i]? = some e → cu'[i]? = some (wset V (if f i = true then two else one) e))
  | m, 0, _, _, _, h, _, _, _, _, _, _ => absurd h (Nat.not_lt_zero m)
  | 0, F + 1, k, T, cu, _, hk, rw0, rp, hl, hc, _ => by
    have : k = L.length := by omega
    subst this
    have l7 := rp.2.2
    rw [r_split_43.eq_2, rp.n ha, bind_s, bind_s, hl, if_pos (nI_le (Nat.le_refl _) (by omega))]
    exact ⟨T, cu, rfl, Wy.rfl, rp, hl, fun i e he => by rw [hc i e he, if_pos (get_lt he)]⟩
  | m + 1, F + 1, k, T, cu, hF, hk, rw0, rp, hl, hc, h7 => by
    have l7 := rp.2.2
    obtain ⟨e, he⟩ : ∃ e, L[k]? = some e := ⟨_, List.getElem?_eq_getElem (show k < L.length by omega)⟩
    have hck := hc k e he
    rw [if_neg (Nat.lt_irrefl _)] at hck
    have he1 := hh e (List.mem_of_getElem? he)
    rw [r_split_43.eq_2, rp.n ha, bind_s, hl, if_neg (nI_ge (by omega) (by omega)), rp.e0 ha hck, bind_s, rd_ok (show k < m_len 7 by rw [len7]; omega) (by omega), bind_s, h7 k (by omega), ite_bI]
    have go : ∀ c, c = (if f k = true then two else one) → hs V c → ∃ T' cu', r_split_80 (r_split_43 F) (nI a) x2 x3 x4 (nI one) (nI two) x7 (nI k) (nI e.1) (nI c) T = r_split_117 FU (nI a) x2 x3 x4 (nI one) (nI two) x7 (nI L.length) 0 0 T' ∧ Wy (fun q => q = a) T T' ∧ RP (T'.1 0) (94 + 30 * a) lf cu' ∧ cu'.length = L.length ∧ (∀ (i : Nat) (e : Re), L[i]? = some e → cu'[i]? = some (wset V (if f i = true then two else one) e)) := by
      intro c hcc hsc
      unfold r_split_80
      obtain ⟨T1, g1, g2⟩ := r_farOf_eq rw0 hv hsc he1
      have g0 : T1.1 0 = T.1 0 := g2.r (by decide) (by decide)
      rw [g1, bd2_s, show (2 : Int32) = nI 2 from rfl, r_letEntry_eq ha (by omega) (by omega), bind_s, nI_1, g0]
      have rp2 := rp.let2 (w := far V c e.1) hck
      have cx : Cq (fun q => q = a) (T1.1 0) (upd (T.1 0) (94 + 30 * a + 2 + 4 * k + 2) (nI (far V c e.1))) := by
        rw [g0, show 94 + 30 * a + 2 + 4 * k + 2 = 94 + 30 * a + (2 + 4 * k + 2) by omega]
        exact Cq.up rfl (by omega)
      have w2 := (Wy.s2 (P := fun q => q = a) g2).tr (Wy.r0 cx)
      obtain ⟨T', cu', k1, k2, k3, k4, k5⟩ := r_split43 (x2 := x2) (x3 := x3) (x4 := x4) (x7 := x7) hv ha h1 h2 hh m F (k + 1) (r0 T1 (upd (T.1 0) (94 + 30 * a + 2 + 4 * k + 2) (nI (far V c e.1)))) _ (by omega) (by omega) (w2.1.2.rw hv rw0) (by rw [r0_0]; exact rp2) (by rw [List.length_set]; exact hl) (fun i e2 he2 => by
        by_cases z : k = i
        · subst z
          rw [List.getElem?_set_self (by omega), if_pos (by omega)]
          rw [he] at he2
          cases he2
          rw [← hcc]
          rfl
        · rw [List.getElem?_set_ne z, hc i e2 he2]
          by_cases y : i < k
          · rw [if_pos y, if_pos (show i < k + 1 by omega)]
          · rw [if_neg y, if_neg (by omega)]) (fun i hi => by rw [w2.2.1]; exact h7 i hi)
      exact ⟨T', cu', k1, w2.tr k2, k3, k4, k5⟩
    by_cases z : f k = true
    · rw [if_pos z]
      exact go two (by rw [if_pos z]) h2
    · rw [if_neg z]
      exact go one (by rw [if_neg z]) h1
/-- the second loop: the entries part -/
theorem r_split117 {x2 x3 x4 x5 x6 : Int32} {f : Nat → Bool} (ha : a < 784) (hu : u < 784) (hau : a ≠ u) {Lw : List Re} (l7 : Lw.length ≤ 7) : ∀ (m F k : Nat) (T : MS) (cu : List Re), m < F → k + m = Lw.length → RP (T.1 0) (94 + 30 * a) lf cu → cu.length = Lw.length → (∀ i : Nat, k ≤ i → cu[i]? = Lw[i]?) → (∀ i, i < (pik (fun k => !f k) 0 (Lw.take k)).length → cu[i]? = (pik (fun k => !f k) 0 (Lw.take k))[i]?) → RP (T.1 0) (94 + 30 * u) lf (pik f 0 (Lw.take k)) → (∀ i, i < Lw.length → T.1 7 i = bI (f i = true)) → ∃ T' cu', r_split_117 F (nI a) x2 x3 x4 x5 x6 (nI u) (nI Lw.length) (nI (pik (fun k => !f k) 0 (Lw.take k)).length) (nI k) T = r_split_225 FU (nI a) x2 x3 x4 x5 x6 (nI u) (nI Lw.length) (nI (pik (fun k => !f k) 0 Lw).length) (nI (pik (fun k => !f k) 0 Lw).length) T' ∧ Wy (fun q => q = a ∨ q = u) T T' ∧ RP (T'.1 0) (94 + 30 * a) lf cu' ∧ cu'.length = Lw.length ∧ (∀ i, i < (pik (fun k => !f k) 0 Lw).length → cu'[i]? = (pik (fun k => !f k) 0 Lw)[i]?) ∧ RP (T'.1 0) (94 + 30 * u) lf (pik f 0 Lw)
  | m, 0, _, _, _, h, _, _, _, _, _, _, _ => absurd h (Nat.not_lt_zero m)
  | 0, F + 1, k, T, cu, _, hk, rp, hl, hc1, hc2, ru, _ => by
    have : k = Lw.length := by omega
    subst this
    rw [List.take_length] at hc2 ru ⊢
    rw [r_split_117.eq_2, if_pos (nI_le (Nat.le_refl _) (by omega))]
    exact ⟨T, cu, rfl, Wy.rfl, rp, hl, hc2, ru⟩
  | m + 1, F + 1, k, T, cu, hF, hk, rp, hl, hc1, hc2, ru, h7 => by
    obtain ⟨e, he⟩ : ∃ e, Lw[k]? = some e := ⟨_, List.getElem?_eq_getElem (show k < Lw.length by omega)⟩
    have hck : cu[k]? = some e := (hc1 k (Nat.le_refl _)).trans he
    have px := pik_take (f := fun k => !f k) he
    have py := pik_take (f := f) he
    have lx := pik_len (f := fun k => !f k) (Lw.take k) 0
    have ly := pik_len (f := f) (Lw.take k) 0
    rw [List.length_take, Nat.min_eq_left (by omega)] at lx ly
    rw [r_split_117.eq_2, if_neg (nI_ge (by omega) (by omega)), rp.e0 ha hck, bind_s, rp.e1 ha hck, bind_s, rp.e2 ha hck, bind_s, rp.e3 ha hck, bind_s, rd_ok (show k < m_len 7 by rw [len7]; omega) (by omega), bind_s, h7 k (by omega), ite_bI]
    unfold r_split_215
    by_cases z : f k = true
    · rw [if_pos z, ru.n hu, bind_s]
      rw [if_neg (by simp [z])] at px
      rw [if_pos z] at py
      obtain ⟨g, g1, g2, g3⟩ := r_insert_eq ru hu (e := e) (Nat.le_refl _) (by omega)
      rw [insE_end, ← py] at g2
      have cx : Cq (fun q => q = u) (T.1 0) g := fun x hx => g3 x (hx u rfl)
      rw [g1, bind_s, nI_1]
      obtain ⟨T', cu', k1, k2, k3⟩ := r_split117 (x2 := x2) (x3 := x3) (x4 := x4) (x5 := x5) (x6 := x6) (f := f) ha hu hau l7 m F (k + 1) (r0 T g) cu (by omega) (by omega) (by rw [r0_0]; exact cx.rp rp hau) hl (fun i hi => hc1 i (by omega)) (by rw [px]; exact hc2) (by rw [r0_0]; exact g2) (fun i hi => by rw [r0_j (by decide)]; exact h7 i hi)
      rw [px] at k1
      exact ⟨T', cu', k1, (Wy.r0 (cx.mono (fun q y => Or.inr y))).tr k2, k3⟩
    · rw [if_neg z, r_layEntry_eq ha (by omega), bind_s]
      rw [if_pos (by simp [z])] at px
      rw [if_neg z] at py
      have rp2 := rp.set (e := e) (show (pik (fun k => !f k) 0 (Lw.take k)).length < cu.length by omega)
      have cx : Cq (fun q => q = a) (T.1 0) (le4 (T.1 0) (94 + 30 * a) (pik (fun k => !f k) 0 (Lw.take k)).length (nI e.1) (nI e.2.1) (nI e.2.2.1) e.2.2.2) := Cq.le4 rfl (by omega)
      rw [nI_1, nI_1]
      obtain ⟨T', cu', k1, k2, k3⟩ := r_split117 (x2 := x2) (x3 := x3) (x4 := x4) (x5 := x5) (x6 := x6) (f := f) ha hu hau l7 m F (k + 1) (r0 T (le4 (T.1 0) (94 + 30 * a) (pik (fun k => !f k) 0 (Lw.take k)).length (nI e.1) (nI e.2.1) (nI e.2.2.1) e.2.2.2)) (cu.set (pik (fun k => !f k) 0 (Lw.take k)).length e) (by omega) (by omega) (by rw [r0_0]; exact rp2) (by rw [List.length_set]; exact hl) (fun i hi => by rw [List.getElem?_set_ne (by omega)]; exact hc1 i (by omega)) (fun i hi => by
        rw [px] at hi ⊢
        rw [List.length_append] at hi
        have hi : i < (pik (fun k => !f k) 0 (Lw.take k)).length + 1 := hi
        by_cases y : i = (pik (fun k => !f k) 0 (Lw.take k)).length
        · subst y
          rw [List.getElem?_set_self (by omega), List.getElem?_append_right (Nat.le_refl _), Nat.sub_self]
          rfl
        · rw [List.getElem?_set_ne (by omega), List.getElem?_append_left (by omega)]
          exact hc2 i (by omega)) (by rw [r0_0, py]; exact cx.rp ru (fun y => hau y.symm)) (fun i hi => by rw [r0_j (by decide)]; exact h7 i hi)
      rw [px, List.length_append] at k1
      exact ⟨T', cu', k1, (Wy.r0 (cx.mono (fun q y => Or.inl y))).tr k2, k3⟩
/-- the third loop: what is behind is cleared, and the page's number of entries set -/
theorem r_split225 {x2 x3 x5 x6 x7 : Int32} {c : Option Nat} {X : List Re} (ha : a < 784) {n : Nat} (hn : n ≤ 7) : ∀ (m F k : Nat) (T : MS), m < F → k + m = n → X.length ≤ k → T.1 0 (94 + 30 * a + 1) = bI (lf = true) → (∀ (i : Nat) (e : Re), X[i]? = some e → EC (T.1 0) (94 + 30 * a) i e) → ∃ T', r_split_225 F (nI a) x2 x3 (o2i c) x5 x6 x7 (nI n) (nI X.length) (nI k) T = (if o2i c = -1 then r_split_284 (nI a) x2 x3 (o2i c) x6 x7 x2 x3 x5 (T'.2 12) 0 T' else bd2 (r_farOf T' (o2i c) x5) (fun v6 S7 => r_split_284 (nI a) x2 x3 (o2i c) x6 x7 x2 x3 x5 (T'.2 12) v6 S7)) ∧ Wy (fun q => q = a) T T' ∧ RP (T'.1 0) (94 + 30 * a) lf X
  | m, 0, _, _, h, _, _, _, _ => absurd h (Nat.not_lt_zero m)
  | 0, F + 1, k, T, _, hk, hx, hl, he => by
    have : k = n := by omega
    subst this
    rw [r_split_225.eq_2, if_pos (nI_le (Nat.le_refl _) (by omega)), show (0 : Int32) = nI 0 from rfl, r_let_eq ha (by omega), bind_s]
    refine ⟨_, rfl, Wy.r0 (Cq.up rfl (by omega)), ?_⟩
    rw [r0_0]
    refine ⟨⟨by rw [Nat.add_zero, upd_s], by rw [upd_n (by omega)]; exact hl⟩, fun i e hi => (he i e hi).keep (fun x q1 q2 => upd_n (by omega)), by omega⟩
  | m + 1, F + 1, k, T, hF, hk, hx, hl, he => by
    rw [r_split_225.eq_2, if_neg (nI_ge (by omega) (by omega)), r_layEntry_eq ha (by omega), bind_s, nI_1]
    have cx : Cq (fun q => q = a) (T.1 0) (le4 (T.1 0) (94 + 30 * a) k 0 0 0 0) := Cq.le4 rfl (by omega)
    obtain ⟨T', k1, k2, k3⟩ := r_split225 (x2 := x2) (x3 := x3) (x5 := x5) (x6 := x6) (x7 := x7) (c := c) (X := X) ha hn m F (k + 1) (r0 T (le4 (T.1 0) (94 + 30 * a) k 0 0 0 0)) (by omega) (by omega) (by omega) (by rw [r0_0, le4_out (by omega)]; exact hl) (fun i e hi => by
      have := get_lt hi
      rw [r0_0]
      exact (he i e hi).keep (fun x q1 q2 => le4_out (by omega)))
    exact ⟨T', k1, (Wy.r0 cx).tr k2, k3⟩
end RSP
