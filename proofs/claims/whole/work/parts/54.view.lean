-- what a state is: words, told, measure, cap, pages used, root, pages (leaf, centre, entries: thing, reach, below)
def Pg : Type := Bool × Option Nat × List (Nat × Nat × Nat)
def Pg.lf (p : Pg) : Bool := p.1
def Pg.ce (p : Pg) : Option Nat := p.2.1
def Pg.es (p : Pg) : List (Nat × Nat × Nat) := p.2.2
def mkP (l : Bool) (c : Option Nat) (es : List (Nat × Nat × Nat)) : Pg := (l, c, es)
def Vt : Type := (Nat → Nat) × List (Nat × Nat × Nat) × Nat × Nat × Nat × Nat × (Nat → Pg)
def Vt.W (V : Vt) : Nat → Nat := V.1
def Vt.T (V : Vt) : List (Nat × Nat × Nat) := V.2.1
def Vt.M (V : Vt) : Nat := V.2.2.1
def Vt.C (V : Vt) : Nat := V.2.2.2.1
def Vt.U (V : Vt) : Nat := V.2.2.2.2.1
def Vt.R (V : Vt) : Nat := V.2.2.2.2.2.1
def Vt.P (V : Vt) : Nat → Pg := V.2.2.2.2.2.2
def mkV (W : Nat → Nat) (T : List (Nat × Nat × Nat)) (M C U R : Nat) (P : Nat → Pg) : Vt := (W, T, M, C, U, R, P)
abbrev hs (V : Vt) (t : Nat) : Prop := t < 40 ∧ V.W t ≠ 0

def bI (p : Prop) [Decidable p] : Int32 := if p then 1 else 0
theorem ite_bI {α : Type} {p : Prop} [Decidable p] {a b : α} : (if bI p = 0 then a else b) = if p then b else a := by
  unfold bI
  by_cases h : p
  · rw [if_pos h, if_pos h, if_neg (by decide)]
  · rw [if_neg h, if_neg h, if_pos rfl]
theorem bI_t {p : Prop} [Decidable p] (h : p) : bI p = 1 := if_pos h
theorem bI_f {p : Prop} [Decidable p] (h : ¬ p) : bI p = 0 := if_neg h
theorem zb_bI {p : Prop} [Decidable p] : zb (bI p) = some (bI p) := by
  unfold bI
  split <;> rfl
theorem r_isIn_b {S : MS} {x a b : Int32} : r_isIn S x a b = some (bI (a ≤ x ∧ x ≤ b)) := r_isIn_eq
/-- told of two: how far, by the first -/
def tl (T : List (Nat × Nat × Nat)) (a b : Nat) : Option Nat := match T with
  | [] => none
  | e :: r => if e.1 = a ∧ e.2.1 = b then some e.2.2 else tl r a b
/-- its place -/
def tp (T : List (Nat × Nat × Nat)) (a b : Nat) : Option Nat := match T with
  | [] => none
  | e :: r => if e.1 = a ∧ e.2.1 = b then some 0 else (tp r a b).map (· + 1)
/-- FAR -/
def far (V : Vt) (a b : Nat) : Nat := match tl V.T a b with
  | some f => f
  | none => apart V.M (V.W a) (V.W b)
theorem tl_tp : ∀ (T : List (Nat × Nat × Nat)) (a b : Nat), match tp T a b with
    | none => tl T a b = none ∧ ∀ e ∈ T, ¬ (e.1 = a ∧ e.2.1 = b)
    | some k => ∃ e, T[k]? = some e ∧ e.1 = a ∧ e.2.1 = b ∧ tl T a b = some e.2.2
  | [], a, b => ⟨rfl, fun e he => by cases he⟩
  | e :: r, a, b => by
    unfold tp tl
    by_cases h : e.1 = a ∧ e.2.1 = b
    · rw [if_pos h, if_pos h]
      exact ⟨e, rfl, h.1, h.2, rfl⟩
    · rw [if_neg h, if_neg h]
      have := tl_tp r a b
      cases q : tp r a b with
      | none =>
        rw [q] at this
        exact ⟨this.1, fun x hx => by
          rcases List.mem_cons.mp hx with rfl | hx
          · exact h
          · exact this.2 x hx⟩
      | some k =>
        rw [q] at this
        obtain ⟨e1, h1, h2⟩ := this
        exact ⟨e1, by simpa using h1, h2⟩
theorem tp_lt {T : List (Nat × Nat × Nat)} {a b k : Nat} (h : tp T a b = some k) : k < T.length := by
  have := tl_tp T a b
  rw [h] at this
  obtain ⟨e, h1, -⟩ := this
  exact (List.getElem?_eq_some_iff.mp h1).1
/-- what holds of the words and what is told -/
def Vw (V : Vt) : Prop := (∀ t, t < 40 → V.W t = 0 ∨ isW (V.W t)) ∧ V.M < 4 ∧ (2 ≤ V.C ∧ V.C ≤ 6) ∧ V.T.length ≤ 16 ∧ (∀ e ∈ V.T, hs V e.1 ∧ hs V e.2.1 ∧ e.2.2 ≤ 99 ∧ e.1 ≠ e.2.1) ∧ V.T.Pairwise (fun e f => ¬ (e.1 = f.1 ∧ e.2.1 = f.2.1))
theorem Vw.w {V : Vt} (h : Vw V) {t : Nat} (ht : hs V t) : isW (V.W t) := (h.1 t ht.1).resolve_left ht.2
theorem tl_mem : ∀ {T : List (Nat × Nat × Nat)} {a b f : Nat}, tl T a b = some f → (a, b, f) ∈ T
  | [], a, b, f, h => by cases h
  | e :: r, a, b, f, h => by
    unfold tl at h
    split at h
    · rename_i q
      obtain ⟨q1, q2⟩ := q
      cases h
      subst q1 q2
      exact List.mem_cons_self
    · exact List.mem_cons_of_mem _ (tl_mem h)
theorem far_le {V : Vt} (h : Vw V) (a b : Nat) : far V a b ≤ 99 := by
  unfold far
  split
  · rename_i f hf
    exact (h.2.2.2.2.1 _ (tl_mem hf)).2.2.1
  · have := apart_le V.M (V.W a) (V.W b)
    omega
theorem far_self {V : Vt} (h : Vw V) (a : Nat) : far V a a = 0 := by
  unfold far
  split
  · rename_i f hf
    exact absurd rfl (h.2.2.2.2.1 _ (tl_mem hf)).2.2.2
  · exact apart_self _ _
/-- the way of an entry from its page's centre -/
def wy (V : Vt) (p : Pg) (t : Nat) : Nat := match p.ce with
  | none => 0
  | some c => far V c t
/-- a page in the reference's row -/
def PE (A : Nat → Int32) (b : Nat) (V : Vt) (p : Pg) (π : Nat → Nat) : Prop := A b = nI p.es.length ∧ A (b + 1) = bI (p.lf = true) ∧ ∀ k e, p.es[k]? = some e → A (b + 2 + 4 * k) = nI e.1 ∧ A (b + 2 + 4 * k + 1) = nI e.2.1 ∧ A (b + 2 + 4 * k + 2) = nI (wy V p e.1) ∧ (p.lf = false → A (b + 2 + 4 * k + 3) = nI (π e.2.2))
/-- words, told, measure, cap in the reference's row, from a place on -/
def RW (A : Nat → Int32) (B : Nat) (V : Vt) : Prop := (A (B + 1) = nI V.M ∧ A (B + 2) = nI V.C ∧ A (B + 3) = nI V.T.length) ∧ (∀ t, t < 40 → A (B + 4 + t) = nI (V.W t)) ∧ (∀ k e, V.T[k]? = some e → A (B + 44 + 3 * k) = nI e.1 ∧ A (B + 44 + 3 * k + 1) = nI e.2.1 ∧ A (B + 44 + 3 * k + 2) = nI e.2.2)
/-- a state in the reference's row, from a place on -/
def RE (A : Nat → Int32) (B : Nat) (V : Vt) (π : Nat → Nat) : Prop := A B = nI (π V.R) ∧ RW A B V ∧ (∀ p, p < V.U → PE A (B + 92 + 30 * π p) V (V.P p) π) ∧ (∀ p, V.U ≤ p → p < 784 → A (B + 92 + 30 * p) = -1)
theorem RE.w {A : Nat → Int32} {B : Nat} {V : Vt} {π : Nat → Nat} (h : RE A B V π) : RW A B V := h.2.1
theorem isW_31 {w : Nat} (h : w = 0 ∨ isW w) : w < 2 ^ 31 := by
  rcases h with rfl | h
  · decide
  · have := isW_lt h; omega
section RV
variable {S : MS} {V : Vt}
theorem r_wordOf_eq (h : RW (S.1 0) 2 V) {t : Nat} (ht : t < 40) : r_wordOf S (nI t) = some (nI (V.W t)) := by
  unfold r_wordOf
  have e : (6 : Int32) = nI 6 := rfl
  rw [e, nI_add, rd_ok (show 6 + t < m_len 0 by rw [len0]; omega) (by omega), bind_s]
  exact congrArg some (h.2.1 t ht)
theorem r_isThing_eq (h : RW (S.1 0) 2 V) (hv : Vw V) {t : Nat} (ht : t < 2 ^ 31) : r_isThing S (nI t) = some (bI (hs V t)) := by
  unfold r_isThing
  have e0 : (0 : Int32) = nI 0 := rfl
  have e39 : (39 : Int32) = nI 39 := rfl
  rw [r_isIn_b, bind_s, ite_bI]
  by_cases q : t < 40
  · have y : 0 ≤ nI t ∧ nI t ≤ 39 := ⟨nI_pos' ht, by rw [e39]; exact nI_le (by omega) (by omega)⟩
    rw [if_pos y, r_wordOf_eq h q, bind_s]
    have w31 := isW_31 (hv.1 t q)
    by_cases z : V.W t = 0
    · rw [bI_f (fun y => y.2 z), if_pos (by rw [z]; rfl)]
      rfl
    · rw [if_neg (nI_ne0 (by omega) w31), bI_t ⟨q, z⟩]
      rfl
  · have : ¬ (0 ≤ nI t ∧ nI t ≤ 39) := fun y => by
      rw [e39] at y
      exact absurd ((nI_leI ht (by decide)).mp y.2) (by omega)
    rw [if_neg this, bI_f (fun y => q y.1)]
    rfl
theorem r_isThing_neg {x : Int32} (hx : x < 0) : r_isThing S x = some 0 := by
  unfold r_isThing
  have : ¬ (0 ≤ x ∧ x ≤ 39) := fun y => Int32.not_le.mpr hx y.1
  rw [r_isIn_b, bind_s, ite_bI, if_neg this]
  rfl
/-- things: how many -/
def cn (V : Vt) : Nat := fo (fun t n => if hs V t then n + 1 else n) 40 0 0
theorem r_things_4_eq (h : RW (S.1 0) 2 V) (hv : Vw V) : ∀ (m F i n : Nat), m < F → i + m = 40 → r_things_4 S F (nI n) (nI i) = some (nI (fo (fun t n => if hs V t then n + 1 else n) m i n))
  | m, 0, _, _, h, _ => absurd h (Nat.not_lt_zero m)
  | 0, F + 1, i, n, _, hi => by
    have : i = 40 := by omega
    subst this
    unfold r_things_4
    rw [if_pos (by decide)]
    rfl
  | m + 1, F + 1, i, n, hF, hi => by
    have e40 : (40 : Int32) = nI 40 := rfl
    have e0 : (0 : Int32) = nI 0 := rfl
    unfold r_things_4 fo
    rw [e40, if_neg (nI_ge (by omega) (by omega)), r_isThing_eq h hv (by omega), bind_s, ite_bI]
    unfold r_things_24
    by_cases q : hs V i
    · rw [if_pos q, if_pos q, nI_1, nI_1, r_things_4_eq h hv m F (i + 1) (n + 1) (by omega) (by omega)]
    · rw [if_neg q, if_neg q, e0, nI_add, nI_1, r_things_4_eq h hv m F (i + 1) (n + 0) (by omega) (by omega)]
      rfl
theorem r_things_eq (h : RW (S.1 0) 2 V) (hv : Vw V) : r_things S = some (nI (cn V)) := by
  unfold r_things
  exact r_things_4_eq h hv 40 FU 0 0 (by decide) rfl
theorem r_toldAt_2_eq (h : RW (S.1 0) 2 V) (hv : Vw V) {a b : Nat} (ha : a < 2 ^ 31) (hb : b < 2 ^ 31) : ∀ (T : List (Nat × Nat × Nat)) (F i : Nat), T.length < F → (∀ k e, T[k]? = some e → V.T[i + k]? = some e) → i + T.length = V.T.length → r_toldAt_2 S F (nI a) (nI b) (nI i) = some (o2i ((tp T a b).map (· + i)))
  | T, 0, _, h, _, _ => absurd h (Nat.not_lt_zero T.length)
  | [], F + 1, i, _, hk, hi => by
    have hi : i = V.T.length := hi
    have := hv.2.2.2.1
    have e5 : (5 : Int32) = nI 5 := rfl
    unfold r_toldAt_2
    rw [e5, rd_ok (show 5 < m_len 0 by rw [len0]; omega) (by omega), bind_s, h.1.2.2, if_pos (nI_le (by omega) (by omega))]
    rfl
  | e :: T, F + 1, i, hF, hk, hi => by
    have l16 := hv.2.2.2.1
    simp only [List.length_cons] at hi hF
    have he : V.T[i]? = some e := hk 0 e rfl
    obtain ⟨c1, c2, c3⟩ := h.2.2 i e he
    obtain ⟨m1, m2, m3, m4⟩ := hv.2.2.2.2.1 e (List.mem_of_getElem? he)
    have m1 := m1.1
    have m2 := m2.1
    have e5 : (5 : Int32) = nI 5 := rfl
    have e46 : (46 : Int32) = nI 46 := rfl
    have e3 : (3 : Int32) = nI 3 := rfl
    unfold r_toldAt_2 tp
    rw [e5, rd_ok (show 5 < m_len 0 by rw [len0]; omega) (by omega), bind_s, h.1.2.2, if_neg (nI_ge (by omega) (by omega)), e46, e3, pk_mul, nI_add, nI_1, rd_ok (show 46 + 3 * i < m_len 0 by rw [len0]; omega) (by omega), bind_s, rd_ok (show 46 + 3 * i + 1 < m_len 0 by rw [len0]; omega) (by omega), bind_s, c1, c2]
    unfold r_toldAt_46
    have step : r_toldAt_2 S F (nI a) (nI b) (nI i + 1) = some (o2i ((tp T a b).map (· + (i + 1)))) := by
      rw [nI_1]
      exact r_toldAt_2_eq h hv ha hb T F (i + 1) (by omega) (fun k e hk2 => by
        have := hk (k + 1) e (by simpa using hk2)
        rw [← this]
        congr 1
        omega) (by omega)
    have step2 : some (o2i ((tp T a b).map (· + (i + 1)))) = some (o2i (((tp T a b).map (· + 1)).map (· + i))) := by
      rw [Option.map_map]
      congr 3
      funext x
      show x + (i + 1) = x + 1 + i
      omega
    by_cases q1 : e.1 = a
    · rw [if_pos (by rw [q1])]
      by_cases q2 : e.2.1 = b
      · rw [if_pos (by rw [q2]), if_pos ⟨q1, q2⟩]
        simp [o2i]
      · rw [if_neg (fun y => q2 ((nI_eq (by omega) hb).mp y)), if_neg (fun y => q2 y.2), step, step2]
    · rw [if_neg (fun y => q1 ((nI_eq (by omega) ha).mp y)), if_neg (fun y => q1 y.1), step, step2]
theorem r_toldAt_eq (h : RW (S.1 0) 2 V) (hv : Vw V) {a b : Nat} (ha : a < 2 ^ 31) (hb : b < 2 ^ 31) : r_toldAt S (nI a) (nI b) = some (o2i (tp V.T a b)) := by
  unfold r_toldAt
  have := hv.2.2.2.1
  rw [show (0 : Int32) = nI 0 from rfl, r_toldAt_2_eq h hv ha hb V.T FU 0 FU_gt (fun k e hk => by simpa using hk) (by omega)]
  simp
theorem r_farOf_eq (h : RW (S.1 0) 2 V) (hv : Vw V) {a b : Nat} (ha : hs V a) (hb : hs V b) : ∃ S', r_farOf S (nI a) (nI b) = some (nI (far V a b), S') ∧ S2 S S' := by
  unfold r_farOf far
  have a40 := ha.1
  have b40 := hb.1
  rw [r_toldAt_eq h hv (by omega) (by omega), bind_s]
  have l16 := hv.2.2.2.1
  have t := tl_tp V.T a b
  cases q : tp V.T a b with
  | none =>
    rw [q] at t
    rw [t.1, if_pos (show o2i none = -1 from rfl), r_wordOf_eq h a40, bind_s, r_wordOf_eq h b40, bind_s]
    obtain ⟨S', g1, g2⟩ := r_apartOf_eq (S := S) (hv.w ha) (hv.w hb) hv.2.1 h.1.1
    rw [g1, bd2_s]
    exact ⟨S', rfl, g2⟩
  | some k =>
    rw [q] at t
    obtain ⟨e, g1, g2, g3, g4⟩ := t
    have hk := tp_lt q
    have e46 : (46 : Int32) = nI 46 := rfl
    have e3 : (3 : Int32) = nI 3 := rfl
    have e2 : (2 : Int32) = nI 2 := rfl
    rw [g4, if_neg (show ¬ o2i (some k) = -1 from fun y => (nI_m1 (by omega)).mp y)]
    show ∃ S', (rd S 0 (46 + 3 * nI k + 2)).bind _ = _ ∧ _
    rw [e46, e3, e2, pk_mul, nI_add, nI_add, rd_ok (show 46 + 3 * k + 2 < m_len 0 by rw [len0]; omega) (by omega), bind_s]
    refine ⟨S, ?_, S2.rfl⟩
    rw [(h.2.2 k e g1).2.2]
/-- the first thing with a word -/
def nof (V : Vt) (w : Nat) : Option Nat := ffi (fun t => if V.W t = w then some t else none) 40 0
theorem r_thingOf_2_eq (h : RW (S.1 0) 2 V) (hv : Vw V) {x : Int32} : ∀ (m F i : Nat), m < F → i + m = 40 → r_thingOf_2 S F x (nI i) = some (o2i (ffi (fun t => if hs V t ∧ nI (V.W t) = x then some t else none) m i))
  | m, 0, _, h, _ => absurd h (Nat.not_lt_zero m)
  | 0, F + 1, i, _, hi => by
    have : i = 40 := by omega
    subst this
    unfold r_thingOf_2
    rw [if_pos (by decide)]
    rfl
  | m + 1, F + 1, i, hF, hi => by
    have e40 : (40 : Int32) = nI 40 := rfl
    unfold r_thingOf_2 ffi
    rw [e40, if_neg (nI_ge (by omega) (by omega)), r_isThing_eq h hv (by omega), bind_s, ite_bI]
    unfold r_thingOf_27
    have ih := r_thingOf_2_eq h hv (x := x) m F (i + 1) (by omega) (by omega)
    by_cases q : hs V i
    · rw [if_pos q, r_wordOf_eq h q.1, bind_s]
      by_cases z : nI (V.W i) = x
      · rw [if_pos z, if_pos ⟨q, z⟩]
        rfl
      · rw [if_neg z, if_neg (fun y => z y.2), nI_1, ih]
    · rw [if_neg q, if_neg (fun y => q y.1), nI_1, ih]
end RV
