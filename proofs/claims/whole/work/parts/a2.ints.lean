section INTS
theorem ti {a : Nat} (h : a < 2 ^ 31) : (nI a).toInt = (a : Int) := Int32.toInt_ofNat_of_lt (by omega)
theorem ti_neg {a : Nat} (h : a < 2 ^ 31) : (-nI a).toInt = -(a : Int) := by
  rw [Int32.toInt_neg, ti h]
  exact Int.bmod_eq_of_le (by omega) (by omega)
theorem ti_sub {a b : Nat} (ha : a < 2 ^ 31) (hb : b < 2 ^ 31) : (nI a - nI b).toInt = (a : Int) - b := by
  rw [Int32.toInt_sub, ti ha, ti hb]
  exact Int.bmod_eq_of_le (by omega) (by omega)
theorem le_sub {a b c : Nat} (ha : a < 2 ^ 31) (hb : b < 2 ^ 31) (hc : c < 2 ^ 31) : nI a - nI b ≤ nI c ↔ a ≤ c + b := by
  rw [Int32.le_iff_toInt_le, ti_sub ha hb, ti hc]; omega
theorem sub_0 {a b : Nat} (ha : a < 2 ^ 31) (hb : b < 2 ^ 31) : nI a - nI b = 0 ↔ a = b := by
  constructor
  · intro h
    have := congrArg Int32.toInt h
    rw [ti_sub ha hb, show (0 : Int32).toInt = 0 from rfl] at this
    omega
  · rintro rfl
    exact Int32.sub_self _
theorem sub_le0 {a b : Nat} (ha : a < 2 ^ 31) (hb : b < 2 ^ 31) : nI a - nI b ≤ 0 ↔ a ≤ b := by
  rw [Int32.le_iff_toInt_le, ti_sub ha hb, show (0 : Int32).toInt = 0 from rfl]; omega
theorem neg_le {a b : Nat} (ha : a < 2 ^ 31) (hb : b < 2 ^ 31) : -nI a ≤ -nI b ↔ b ≤ a := by
  rw [Int32.le_iff_toInt_le, ti_neg ha, ti_neg hb]; omega
theorem neg_lt {a b : Nat} (ha : a < 2 ^ 31) (hb : b < 2 ^ 31) : -nI a < -nI b ↔ b < a := by
  rw [Int32.lt_iff_toInt_lt, ti_neg ha, ti_neg hb]; omega
theorem neg_eq {a b : Nat} (ha : a < 2 ^ 31) (hb : b < 2 ^ 31) : -nI a = -nI b ↔ a = b := by
  constructor
  · intro h
    have := congrArg Int32.toInt h
    rw [ti_neg ha, ti_neg hb] at this
    omega
  · rintro rfl; rfl
/-- a rank: a distance, or below zero for the farthest -/
def sg (f : Bool) (d : Nat) : Int32 := if f = true then -nI d else nI d
/-- ahead by rank -/
def ba (f : Bool) (a b : Nat) : Prop := if f = true then b < a else a < b
theorem ba_t {a b : Nat} : ba true a b ↔ b < a := by unfold ba; rw [if_pos rfl]
theorem ba_f {a b : Nat} : ba false a b ↔ a < b := by unfold ba; rw [if_neg (by decide)]
theorem sg_lt {f : Bool} {a b : Nat} (ha : a < 2 ^ 31) (hb : b < 2 ^ 31) : sg f a < sg f b ↔ ba f a b := by
  cases f
  · rw [ba_f]; exact nI_ltI ha hb
  · rw [ba_t]; exact neg_lt ha hb
theorem sg_le {f : Bool} {a b : Nat} (ha : a < 2 ^ 31) (hb : b < 2 ^ 31) : sg f a ≤ sg f b ↔ ¬ ba f b a := by
  cases f
  · rw [ba_f]; exact (nI_leI ha hb).trans (by omega)
  · rw [ba_t]; exact (neg_le ha hb).trans (by omega)
theorem sg_eq {f : Bool} {a b : Nat} (ha : a < 2 ^ 31) (hb : b < 2 ^ 31) : sg f a = sg f b ↔ a = b := by
  cases f
  · exact nI_eq ha hb
  · exact neg_eq ha hb
theorem ba_irr {f : Bool} {a : Nat} : ¬ ba f a a := by cases f <;> simp [ba]
theorem ba_tri {f : Bool} {a b : Nat} : ba f a b ∨ a = b ∨ ba f b a := by
  cases f
  · rw [ba_f, ba_f]; omega
  · rw [ba_t, ba_t]; omega
theorem ba_tr {f : Bool} {a b c : Nat} (h : ba f a b) (k : ba f b c) : ba f a c := by
  cases f
  · rw [ba_f] at *; omega
  · rw [ba_t] at *; omega
/-- thing t goes ahead of x -/
def ah (f : Bool) (d : Nat → Nat) (t x : Nat) : Prop := ba f (d t) (d x) ∨ (d t = d x ∧ t < x)
theorem ah_tr {f : Bool} {d : Nat → Nat} {a b c : Nat} (h : ah f d a b) (k : ah f d b c) : ah f d a c := by
  rcases h with h | ⟨h1, h2⟩
  · rcases k with k | ⟨k1, k2⟩
    · exact Or.inl (ba_tr h k)
    · exact Or.inl (by rw [← k1]; exact h)
  · rcases k with k | ⟨k1, k2⟩
    · exact Or.inl (by rw [h1]; exact k)
    · exact Or.inr ⟨h1.trans k1, by omega⟩
theorem ah_irr {f : Bool} {d : Nat → Nat} {a : Nat} : ¬ ah f d a a := fun h => by
  rcases h with h | h
  · exact ba_irr h
  · omega
theorem ah_tri {f : Bool} {d : Nat → Nat} {a b : Nat} (h : a ≠ b) : ah f d a b ∨ ah f d b a := by
  rcases ba_tri (f := f) (a := d a) (b := d b) with q | q | q
  · exact Or.inl (Or.inl q)
  · rcases Nat.lt_or_ge a b with z | z
    · exact Or.inl (Or.inr ⟨q, z⟩)
    · exact Or.inr (Or.inr ⟨q.symm, by omega⟩)
  · exact Or.inr (Or.inl q)
/-- in order of rank -/
def Srt (f : Bool) (d : Nat → Nat) (R : List Nat) : Prop := R.Pairwise (ah f d)
/-- the place of one more -/
theorem Srt.cut {f : Bool} {d : Nat → Nat} {t : Nat} : ∀ {R : List Nat}, Srt f d R → t ∉ R → ∃ p, p ≤ R.length ∧ (∀ i x, i < p → R[i]? = some x → ah f d x t) ∧ ∀ i x, p ≤ i → R[i]? = some x → ah f d t x
  | [], _, _ => ⟨0, Nat.le_refl _, fun i x h => absurd h (Nat.not_lt_zero _), fun i x _ h => by cases h⟩
  | y :: R, s, n => by
    obtain ⟨s1, s2⟩ := List.pairwise_cons.mp s
    have ny : t ≠ y := fun z => n (by rw [z]; exact List.mem_cons_self ..)
    rcases ah_tri (f := f) (d := d) ny with q | q
    · refine ⟨0, Nat.zero_le _, fun i x h => absurd h (Nat.not_lt_zero _), fun i x _ h => ?_⟩
      cases i with
      | zero => cases h; exact q
      | succ i => exact ah_tr q (s1 x (List.mem_of_getElem? (by simpa using h)))
    · obtain ⟨p, p1, p2, p3⟩ := Srt.cut (t := t) s2 (fun z => n (List.mem_cons_of_mem _ z))
      refine ⟨p + 1, by rw [List.length_cons]; omega, fun i x hi h => ?_, fun i x hi h => ?_⟩
      · cases i with
        | zero => cases h; exact q
        | succ i => exact p2 i x (by omega) (by simpa using h)
      · cases i with
        | zero => omega
        | succ i => exact p3 i x (by omega) (by simpa using h)
theorem lin_mem {R : List Nat} {p t x : Nat} : x ∈ lin R p t ↔ x = t ∨ x ∈ R := by
  unfold lin
  rw [List.mem_append, List.mem_cons]
  constructor
  · rintro (h | h | h)
    · exact Or.inr (List.mem_of_mem_take h)
    · exact Or.inl h
    · exact Or.inr (List.mem_of_mem_drop h)
  · rintro (h | h)
    · exact Or.inr (Or.inl h)
    · rw [← List.take_append_drop p R] at h
      rcases List.mem_append.mp h with h | h
      · exact Or.inl h
      · exact Or.inr (Or.inr h)
theorem Srt.ins {f : Bool} {d : Nat → Nat} {R : List Nat} {t p : Nat} (s : Srt f d R) (h1 : ∀ i x, i < p → R[i]? = some x → ah f d x t) (h2 : ∀ i x, p ≤ i → R[i]? = some x → ah f d t x) : Srt f d (lin R p t) := by
  unfold lin Srt
  have s' := s
  unfold Srt at s'
  rw [← List.take_append_drop p R, List.pairwise_append] at s'
  have a1 : ∀ x ∈ R.take p, ah f d x t := fun x hx => by
    obtain ⟨i, hi⟩ := List.mem_iff_getElem?.mp hx
    rw [List.getElem?_take] at hi
    split at hi
    · exact h1 i x (by assumption) hi
    · cases hi
  have a2 : ∀ x ∈ R.drop p, ah f d t x := fun x hx => by
    obtain ⟨i, hi⟩ := List.mem_iff_getElem?.mp hx
    rw [List.getElem?_drop] at hi
    exact h2 (p + i) x (by omega) hi
  rw [List.pairwise_append]
  refine ⟨s'.1, List.pairwise_cons.mpr ⟨a2, s'.2.1⟩, fun x hx y hy => ?_⟩
  rcases List.mem_cons.mp hy with rfl | hy
  · exact a1 x hx
  · exact s'.2.2 x hx y hy
/-- sorted lists with the same things are one -/
theorem Srt.uniq {f : Bool} {d : Nat → Nat} : ∀ {R T : List Nat}, Srt f d R → Srt f d T → (∀ x, x ∈ R ↔ x ∈ T) → R = T
  | [], [], _, _, _ => rfl
  | [], y :: T, _, _, h => absurd ((h y).mpr (List.mem_cons_self ..)) (by simp)
  | x :: R, [], _, _, h => absurd ((h x).mp (List.mem_cons_self ..)) (by simp)
  | x :: R, y :: T, s, t, h => by
    obtain ⟨s1, s2⟩ := List.pairwise_cons.mp s
    obtain ⟨t1, t2⟩ := List.pairwise_cons.mp t
    have xy : x = y := by
      rcases List.mem_cons.mp ((h x).mp (List.mem_cons_self ..)) with q | q
      · exact q
      · rcases List.mem_cons.mp ((h y).mpr (List.mem_cons_self ..)) with z | z
        · exact z.symm
        · exact absurd (ah_tr (t1 x q) (s1 y z)) ah_irr
    subst xy
    have nR : x ∉ R := fun z => ah_irr (s1 x z)
    have nT : x ∉ T := fun z => ah_irr (t1 x z)
    rw [Srt.uniq s2 t2 (fun z => ⟨fun hz => ?_, fun hz => ?_⟩)]
    · rcases List.mem_cons.mp ((h z).mp (List.mem_cons_of_mem _ hz)) with q | q
      · exact absurd (q ▸ hz) nR
      · exact q
    · rcases List.mem_cons.mp ((h z).mpr (List.mem_cons_of_mem _ hz)) with q | q
      · exact absurd (q ▸ hz) nT
      · exact q
end INTS
