abbrev clsC : List vw_C := [(RX0, TX0, 10), (RX1, TX1, 6), (RX2, TX2, 4), (RX3, TX3, 14), (RX4, TX4, 4), (RX5, TX5, 2), (RX6, TX6, 18), (RX7, TX7, 13), (RX8, TX8, 9), (RX9, TX9, 10), (RX10, TX10, 3), (RX11, TX11, 10), (RJx4a65c, TJx4a65c, 3)]
def c_refs : List Nat := [0, 2, 3, 4, 100, 101, 102, 104, 200, 201, 202, 203, 303, 304, 305, 400, 401, 402, 403, 500, 600, 601, 602, 610, 611, 612, 700, 702, 703, 704, 708, 800, 801, 805, 806, 807, 808, 900, 901, 902, 903, 904, 1000, 1001, 1002, 1100, 1101, 1102, 1103, 1104, 1105, 1106, 1107, 1108, 1109, 1201]

/-- a store: kinds of the addresses (0 none, 1 int[], 2 boolean[], 3 Object[], 5 the empty Object[] that isn't its own, 10 + c an object of class c), lengths, numbers and references in fields (by 100 c + k) and in rows; the next address; slots made -/
def Hp : Type := (Nat → Nat) × (Nat → Nat) × (Nat → Nat → Int32) × (Nat → Nat → Nat) × (Nat → Nat → Int32) × (Nat → Nat → Nat) × Nat × Nat
def Hp.kd (σ : Hp) : Nat → Nat := σ.1
def Hp.ln (σ : Hp) : Nat → Nat := σ.2.1
def Hp.fi (σ : Hp) : Nat → Nat → Int32 := σ.2.2.1
def Hp.fr (σ : Hp) : Nat → Nat → Nat := σ.2.2.2.1
def Hp.ar (σ : Hp) : Nat → Nat → Int32 := σ.2.2.2.2.1
def Hp.rr (σ : Hp) : Nat → Nat → Nat := σ.2.2.2.2.2.1
def Hp.nx (σ : Hp) : Nat := σ.2.2.2.2.2.2.1
def Hp.us (σ : Hp) : Nat := σ.2.2.2.2.2.2.2
def up3 {α : Type} (A : Nat → Nat → α) (j i : Nat) (v : α) : Nat → Nat → α := fun j2 i2 => if j2 = j ∧ i2 = i then v else A j2 i2
def upr {α : Type} (A : Nat → α) (j : Nat) (v : α) : Nat → α := fun j2 => if j2 = j then v else A j2
/-- what is fixed: base, the empty row's address, cells of others, classes and their slots, row classes, limits, the class object, texts and their bytes -/
def Gt : Type := Nat × Nat × (Nat → Prop) × va_G × (Nat → ClassId) × Nat × Nat × Nat × (Nat → Nat) × (Nat → Nat)
def Gt.base (G : Gt) : Nat := G.1
def Gt.e0 (G : Gt) : Nat := G.2.1
def Gt.inM (G : Gt) : Nat → Prop := G.2.2.1
def Gt.D (G : Gt) : va_G := G.2.2.2.1
def Gt.cA (G : Gt) : Nat → ClassId := G.2.2.2.2.1
def NXc : Nat := 600002
def UXc : Nat := 7302250
abbrev Gt.NX (_ : Gt) : Nat := NXc
abbrev Gt.UX (_ : Gt) : Nat := UXc
def Gt.mi (G : Gt) : Nat := G.2.2.2.2.2.2.2.1
def Gt.adK (G : Gt) : Nat → Nat := G.2.2.2.2.2.2.2.2.1
def Gt.adV (G : Gt) : Nat → Nat := G.2.2.2.2.2.2.2.2.2
def Gt.adr (G : Gt) (a : Nat) : Nat := if a = 1 then G.e0 else G.base + (a - 2)
def Gt.rv (G : Gt) (a : Nat) : Value := if a = 0 then .null else .ref (G.adr a)
theorem Gt.rv_cat (G : Gt) (a : Nat) : (G.rv a).category = 1 := by
  unfold Gt.rv
  split <;> rfl
theorem Gt.rv_ne (G : Gt) {a : Nat} (h : a ≠ 0) : G.rv a = .ref (G.adr a) := if_neg h
theorem Gt.rv_0 (G : Gt) : G.rv 0 = .null := rfl
theorem Gt.adr_inj {G : Gt} (hG : G.e0 < G.base) {a b : Nat} (ha : a ≠ 0) (hb : b ≠ 0) (h : G.adr a = G.adr b) : a = b := by
  unfold Gt.adr at h
  split at h <;> split at h <;> omega
theorem Gt.adr_own {G : Gt} {a : Nat} (h : 2 ≤ a) : G.adr a = G.base + (a - 2) := if_neg (by omega)
def ssum (H : Heap) (n : Nat) : Nat := ((H.toList.drop n).map (·.slots.size)).sum
theorem ssum_push {H : Heap} {n : Nat} {cell : Cell} (h : n ≤ H.size) : ssum (H.push cell) n = ssum H n + cell.slots.size := by
  unfold ssum
  rw [Array.toList_push, List.drop_append_of_le_length (by simpa using h)]
  simp
theorem ssum_congr {H H1 : Heap} {n : Nat} (h : ∀ q : Nat, (H1[q]?).map (·.slots.size) = (H[q]?).map (·.slots.size)) : ssum H1 n = ssum H n := by
  unfold ssum
  rw [List.map_drop, List.map_drop]
  congr 2
  apply List.ext_getElem?
  intro q
  have := h q
  simpa [List.getElem?_map] using this
theorem ssum_set {H H1 : Heap} {n a : Nat} {c c1 : Cell} (h0 : H[a]? = some c) (h1 : H1[a]? = some c1) (hs : c1.slots.size = c.slots.size) (oq : ∀ q : Nat, q ≠ a → H1[q]? = H[q]?) : ssum H1 n = ssum H n := by
  apply ssum_congr
  intro q
  by_cases hq : q = a
  · subst hq
    rw [h0, h1]
    simp [hs]
  · rw [oq q hq]
theorem ssum_split {s t : State} {locs : List Loc} {cells slots b : Nat} (h : s.sameButNew t locs cells slots) (hb : b ≤ s.heap.size) : ssum t.heap b = ssum s.heap b + ssum t.heap s.heap.size := by
  obtain ⟨-, h2, -, -, -, h6⟩ := h
  unfold ssum
  have e : (t.heap.toList.take s.heap.size).map (·.slots.size) = s.heap.toList.map (·.slots.size) := by
    apply List.ext_getElem?
    intro q
    by_cases hq : q < s.heap.size
    · obtain ⟨c', g1, -, g3, -⟩ := h6 q _ (Array.getElem?_eq_getElem hq)
      rw [List.getElem?_map, List.getElem?_map, List.getElem?_take_of_lt hq, Array.getElem?_toList, Array.getElem?_toList, g1, Array.getElem?_eq_getElem hq]
      simp [g3]
    · rw [List.getElem?_eq_none (by simp; omega), List.getElem?_eq_none (by simp; omega)]
  conv => lhs; rw [← List.take_append_drop s.heap.size t.heap.toList]
  rw [List.drop_append_of_le_length (by simp; omega), List.map_append, List.sum_append, List.map_drop, e, ← List.map_drop]
section WA
variable {p : Program} {l : Launch} {e : Env} {R : Room} {s : State} {m : MethodId} {args : Array Value} {below : List Frame} {meth : Method} {c : Code} {H : Heap} {locs : List Loc} {cells slots : Nat} {Q : State → Prop} {g : JFrame}
/-- counted as the heap says is enough -/
theorem W.any (h : W p l e R s m args below meth c H locs (H.size - s.heap.size) (ssum H s.heap.size) Q g) : W p l e R s m args below meth c H locs cells slots Q g := by
  intro T hT X
  refine h T hT { X with same := ?_ }
  obtain ⟨h1, h2, h3, h4, h5, h6⟩ := X.same
  subst hT
  exact ⟨h1, h2, by show T.heap.size ≤ s.heap.size + (T.heap.size - s.heap.size); omega, h4, Nat.le_refl _, h6⟩
end WA
/-- a field's value -/
def fvC (G : Gt) (σ : Hp) (id a : Nat) : Value := if id ∈ c_refs then G.rv (σ.fr id a) else .int (σ.fi id a)
def cellC (G : Gt) (σ : Hp) (a : Nat) (H : Heap) : Prop :=
  (σ.kd a = 1 → H[G.adr a]? = some (arrV (G.cA 1) (σ.ln a) (fun j => .int (σ.ar a j)))) ∧
  (σ.kd a = 2 → H[G.adr a]? = some (arrV (G.cA 2) (σ.ln a) (fun j => .int (σ.ar a j)))) ∧
  (σ.kd a = 3 → H[G.adr a]? = some (arrV (G.cA 3) (σ.ln a) (fun j => G.rv (σ.rr a j)))) ∧
  ∀ (c : Nat) (r : vw_C), σ.kd a = 10 + c → clsC[c]? = some r → t_OB (G.adr a) (G.D.1 c) r.2.2 (G.D.2 c) H (fun k => fvC G σ (100 * c + k) a)
/-- what may stand in a row of references -/
def okE (σ : Hp) (v : Nat) : Prop := v = 0 ∨ σ.kd v = 13 ∨ σ.kd v = 17
def HC (G : Gt) (σ : Hp) (H : Heap) : Prop :=
  (H.size = G.base + (σ.nx - 2) ∧ 2 ≤ σ.nx ∧ G.e0 < G.base ∧ σ.nx ≤ G.NX ∧ σ.us ≤ G.UX) ∧ ssum H G.base = σ.us ∧ (∀ a, σ.kd a ≠ 0 → a ≠ 0 ∧ a < σ.nx ∧ (σ.kd a = 5 → a = 1 ∧ σ.ln a = 0)) ∧ (∀ a, σ.kd a ≠ 0 → σ.kd a ≠ 5 → 2 ≤ a ∧ ¬ G.inM (G.adr a)) ∧ (∀ q, G.inM q → q < H.size) ∧
  (∀ a, σ.kd a = 3 → ∀ j, j < σ.ln a → okE σ (σ.rr a j)) ∧ ∀ a, σ.kd a ≠ 0 → cellC G σ a H
def AC (G : Gt) : Nat → Prop := fun q => G.base ≤ q ∧ ¬ G.inM q
theorem HC.own {G : Gt} {σ : Hp} {H : Heap} (h : HC G σ H) {a : Nat} (ha : σ.kd a ≠ 0) (h5 : σ.kd a ≠ 5) : AC G (G.adr a) := by
  obtain ⟨g1, g2⟩ := h.2.2.2.1 a ha h5
  refine ⟨?_, g2⟩
  rw [Gt.adr_own g1]
  omega
/-- one cell has been written -/
theorem HC.upd {G : Gt} {σ σ1 : Hp} {H H1 : Heap} {a : Nat} {c c1 : Cell} (h : HC G σ H) (ha : σ.kd a ≠ 0) (hkd : σ1.kd = σ.kd) (hln : σ1.ln = σ.ln) (hnx : σ1.nx = σ.nx) (hus : σ1.us = σ.us)
    (hb : ∀ b, b ≠ a → (∀ id, σ1.fi id b = σ.fi id b) ∧ (∀ id, σ1.fr id b = σ.fr id b) ∧ σ1.ar b = σ.ar b ∧ σ1.rr b = σ.rr b) (he : σ.kd a = 3 → ∀ j, j < σ.ln a → okE σ (σ1.rr a j))
    (h0 : H[G.adr a]? = some c) (h1 : H1[G.adr a]? = some c1) (hs : c1.slots.size = c.slots.size) (z : H1.size = H.size) (oq : ∀ q : Nat, q ≠ G.adr a → H1[q]? = H[q]?) (hc : cellC G σ1 a H1) : HC G σ1 H1 := by
  obtain ⟨g1, g2, g3, g4, g5, g6, g7⟩ := h
  refine ⟨by rw [hnx, hus, z]; exact g1, by rw [ssum_set h0 h1 hs oq, hus]; exact g2, by rw [hkd, hnx, hln]; exact g3, by rw [hkd]; exact g4, by rw [z]; exact g5, ?_, ?_⟩
  · intro b hk j hj
    rw [hkd] at hk
    rw [hln] at hj
    have okk : ∀ v, okE σ v → okE σ1 v := fun v q => by unfold okE at *; rw [hkd]; exact q
    by_cases e : b = a
    · subst e
      exact okk _ (he hk j hj)
    · rw [(hb b e).2.2.2]
      exact okk _ (g6 b hk j hj)
  · intro b hk
    by_cases e : b = a
    · subst e
      exact hc
    · rw [hkd] at hk
      have hne : G.adr b ≠ G.adr a := fun q => e (Gt.adr_inj g1.2.2.1 (g3 b hk).1 (g3 a ha).1 q)
      obtain ⟨f1, f2, f3, f4⟩ := hb b e
      obtain ⟨k1, k2, k3, k4⟩ := g7 b hk
      unfold cellC
      rw [hkd, hln, f3, f4, oq _ hne]
      refine ⟨k1, k2, k3, fun c r q1 q2 => ?_⟩
      refine t_OB.to ((k4 c r q1 q2).kept (oq _ hne)) (fun k _ => ?_)
      show fvC G σ _ b = fvC G σ1 _ b
      unfold fvC
      rw [f1, f2]
/-- a cell has been made -/
theorem HC.new {G : Gt} {σ σ1 : Hp} {H : Heap} {cell : Cell} (h : HC G σ H) (hkd : ∀ b, b ≠ σ.nx → σ1.kd b = σ.kd b) (hkn : σ1.kd σ.nx ≠ 0 ∧ σ1.kd σ.nx ≠ 5) (hnx : σ1.nx = σ.nx + 1) (hNX : σ.nx + 1 ≤ G.NX) (hus : σ1.us = σ.us + cell.slots.size) (hUX : σ.us + cell.slots.size ≤ G.UX)
    (hb : ∀ b, b ≠ σ.nx → σ1.ln b = σ.ln b ∧ (∀ id, σ1.fi id b = σ.fi id b) ∧ (∀ id, σ1.fr id b = σ.fr id b) ∧ σ1.ar b = σ.ar b ∧ σ1.rr b = σ.rr b) (he : σ1.kd σ.nx = 3 → ∀ j, j < σ1.ln σ.nx → σ1.rr σ.nx j = 0)
    (hc : cellC G σ1 σ.nx (H.push cell)) : HC G σ1 (H.push cell) := by
  obtain ⟨g1, g2, g3, g4, g5, g6, g7⟩ := h
  have hadr : G.adr σ.nx = H.size := by rw [Gt.adr_own g1.2.1]; exact g1.1.symm
  have k0 : σ.kd σ.nx = 0 := by
    by_cases q : σ.kd σ.nx = 0
    · exact q
    · exact absurd (g3 _ q).2.1 (Nat.lt_irrefl _)
  have okk : ∀ v, okE σ v → okE σ1 v := fun v q => by
    rcases q with q | q | q
    · exact Or.inl q
    · have : v ≠ σ.nx := fun e => by rw [e, k0] at q; cases q
      exact Or.inr (Or.inl (by rw [hkd v this]; exact q))
    · have : v ≠ σ.nx := fun e => by rw [e, k0] at q; cases q
      exact Or.inr (Or.inr (by rw [hkd v this]; exact q))
  refine ⟨⟨by rw [Array.size_push, hnx]; omega, by omega, g1.2.2.1, by omega, by omega⟩, by rw [ssum_push (by omega), hus, g2], ?_, ?_, fun q hq => by rw [Array.size_push]; exact Nat.lt_succ_of_lt (g5 q hq), ?_, ?_⟩
  · intro b hk
    by_cases e : b = σ.nx
    · subst e
      exact ⟨by omega, by omega, fun q => absurd q hkn.2⟩
    · rw [hkd b e] at hk ⊢
      rw [(hb b e).1]
      exact ⟨(g3 b hk).1, by have := (g3 b hk).2.1; omega, (g3 b hk).2.2⟩
  · intro b hk h5
    by_cases e : b = σ.nx
    · subst e
      refine ⟨g1.2.1, fun q => ?_⟩
      have := g5 _ q
      omega
    · rw [hkd b e] at hk h5
      exact g4 b hk h5
  · intro b hk j hj
    by_cases e : b = σ.nx
    · subst e
      exact Or.inl (he hk j hj)
    · rw [hkd b e] at hk
      rw [(hb b e).1] at hj
      rw [(hb b e).2.2.2.2]
      exact okk _ (g6 b hk j hj)
  · intro b hk
    by_cases e : b = σ.nx
    · subst e
      exact hc
    · rw [hkd b e] at hk
      have hlt : G.adr b < H.size := by
        have := (g3 b hk)
        unfold Gt.adr
        split <;> omega
      have oq : (H.push cell)[G.adr b]? = H[G.adr b]? := by rw [Array.getElem?_push_lt hlt, Array.getElem?_eq_getElem hlt]
      obtain ⟨f0, f1, f2, f3, f4⟩ := hb b e
      obtain ⟨k1, k2, k3, k4⟩ := g7 b hk
      unfold cellC
      rw [hkd b e, f0, f3, f4, oq]
      refine ⟨k1, k2, k3, fun c r q1 q2 => ?_⟩
      refine t_OB.to ((k4 c r q1 q2).kept oq) (fun k _ => ?_)
      show fvC G σ _ b = fvC G σ1 _ b
      unfold fvC
      rw [f1, f2]

