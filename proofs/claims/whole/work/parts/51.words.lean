-- words: how many letters, which
def lo : Nat → Nat → Option Nat
  | 0, _ => some 0
  | f + 1, w => if w = 0 then some 0 else if w % 9 = 0 then none else (lo f (w / 9)).map (· + 1)
def letters (w : Nat) : Option Nat := if w < 1 ∨ 531440 < w then none else lo 6 w
def cl (w : Nat) : Nat := if w < 1 then 0 else if w < 9 then 1 else if w < 81 then 2 else if w < 729 then 3 else if w < 6561 then 4 else if w < 59049 then 5 else 6
def dv : Nat → Nat → Nat
  | 0, w => w
  | k + 1, w => dv k (w / 9)
def lt (w i : Nat) : Nat := if i < cl w then dv (cl w - 1 - i) w % 9 else 0
def o2i (o : Option Nat) : Int32 := match o with
  | none => -1
  | some n => nI n
theorem cl_le (w : Nat) : cl w ≤ 6 := by
  unfold cl
  repeat' split
  all_goals omega
theorem cl_div {w : Nat} (h : 0 < w) (h2 : w < 531441) : cl w = cl (w / 9) + 1 := by
  unfold cl
  repeat' split
  all_goals omega
theorem lo_cl : ∀ (f w n : Nat), w < 9 ^ f → f ≤ 6 → lo f w = some n → n = cl w
  | 0, w, n, h, _, e => by
    cases e
    have : w = 0 := by omega
    rw [this]; rfl
  | f + 1, w, n, h, hf, e => by
    unfold lo at e
    split at e
    · cases e
      rename_i q; rw [q]; rfl
    · split at e
      · cases e
      · obtain ⟨k, e1, rfl⟩ := Option.map_eq_some_iff.mp e
        have hp : 9 ^ f ≤ 9 ^ 5 := Nat.pow_le_pow_right (by decide) (by omega)
        have h9 : 9 ^ (f + 1) = 9 ^ f * 9 := rfl
        have := lo_cl f (w / 9) k (by omega) (by omega) e1
        rw [this]
        exact (cl_div (w := w) (by omega) (by omega)).symm
theorem lo_nz : ∀ (f w n : Nat), lo f w = some n → ∀ k, k < n → dv k w % 9 ≠ 0
  | 0, w, n, e => by cases e; intro k hk; omega
  | f + 1, w, n, e => by
    unfold lo at e
    split at e
    · cases e; intro k hk; omega
    · split at e
      · cases e
      · obtain ⟨m, e1, rfl⟩ := Option.map_eq_some_iff.mp e
        intro k hk
        cases k with
        | zero => assumption
        | succ k => exact lo_nz f (w / 9) m e1 k (by omega)
/-- a word -/
def isW (w : Nat) : Prop := (letters w).isSome = true
theorem isW_lt {w : Nat} (h : isW w) : 0 < w ∧ w < 531441 := by
  unfold isW letters at h
  split at h
  · cases h
  · omega
theorem isW_cl {w : Nat} (h : isW w) : letters w = some (cl w) := by
  have h1 := isW_lt h
  unfold isW at h
  obtain ⟨n, hn⟩ := Option.isSome_iff_exists.mp h
  rw [hn]
  unfold letters at hn
  rw [if_neg (by omega)] at hn
  rw [lo_cl 6 w n (by omega) (by omega) hn]
theorem isW_nz {w i : Nat} (h : isW w) (hi : i < cl w) : lt w i ≠ 0 := by
  have h1 := isW_lt h
  have h2 := isW_cl h
  unfold letters at h2
  rw [if_neg (by omega)] at h2
  unfold lt
  rw [if_pos hi]
  exact lo_nz 6 w _ h2 _ (by omega)
theorem isW_pos {w : Nat} (h : isW w) : 0 < cl w := by
  have := isW_lt h
  rw [cl_div this.1 this.2]
  omega
theorem lt_le (w i : Nat) : lt w i ≤ 8 := by
  unfold lt
  split <;> omega
theorem lt_eq {w v : Nat} (hw : isW w) (hv : isW v) (h : ∀ i, i < 6 → lt w i = lt v i) : w = v := by
  have a1 := isW_lt hw
  have a2 := isW_lt hv
  have c6 := cl_le w
  have d6 := cl_le v
  have hc : cl w = cl v := by
    rcases Nat.lt_trichotomy (cl w) (cl v) with q | q | q
    · have := h (cl w) (by omega)
      have z := isW_nz hv q
      rw [← this] at z
      unfold lt at z
      rw [if_neg (by omega)] at z
      exact absurd rfl z
    · exact q
    · have := h (cl v) (by omega)
      have z := isW_nz hw q
      rw [this] at z
      unfold lt at z
      rw [if_neg (by omega)] at z
      exact absurd rfl z
  have key : ∀ k, k < cl w → dv k w % 9 = dv k v % 9 := by
    intro k hk
    have := h (cl w - 1 - k) (by omega)
    unfold lt at this
    rw [if_pos (by omega), if_pos (by omega)] at this
    have e1 : cl w - 1 - (cl w - 1 - k) = k := by omega
    have e2 : cl v - 1 - (cl w - 1 - k) = k := by omega
    rw [e1, e2] at this
    exact this
  have gen : ∀ (n w v : Nat), cl w = n → cl v = n → w < 531441 → v < 531441 → (∀ k, k < n → dv k w % 9 = dv k v % 9) → w = v := by
    intro n
    induction n with
    | zero =>
      intro w v h1 h2 h3 h4 _
      unfold cl at h1 h2
      repeat' split at h1
      all_goals repeat' split at h2
      all_goals omega
    | succ n ih =>
      intro w v h1 h2 h3 h4 h5
      have p1 : 0 < w := by
        rcases Nat.eq_zero_or_pos w with q | q
        · rw [q] at h1; cases h1
        · exact q
      have p2 : 0 < v := by
        rcases Nat.eq_zero_or_pos v with q | q
        · rw [q] at h2; cases h2
        · exact q
      have e1 := cl_div p1 h3
      have e2 := cl_div p2 h4
      have e3 : w / 9 = v / 9 := ih (w / 9) (v / 9) (by omega) (by omega) (by omega) (by omega) (fun k hk => h5 (k + 1) (by omega))
      have e4 : w % 9 = v % 9 := h5 0 (by omega)
      omega
  exact gen (cl w) w v rfl hc.symm a1.2 a2.2 key
/-- the editing measure by rows -/
def edn (x : Nat) (b : Nat → Nat) (i1 : Nat) (r : Nat → Nat) : Nat → Nat
  | 0 => i1
  | j + 1 => min (r j + if x = b j then 0 else 1) (min (r (j + 1)) (edn x b i1 r j) + 1)
def ed (a b : Nat → Nat) : Nat → Nat → Nat
  | 0 => fun j => j
  | i + 1 => edn (a i) b (i + 1) (ed a b i)
theorem ed_00 (a b : Nat → Nat) (j : Nat) : ed a b 0 j = j := rfl
theorem ed_s0 (a b : Nat → Nat) (i : Nat) : ed a b (i + 1) 0 = i + 1 := rfl
theorem ed_ss (a b : Nat → Nat) (i j : Nat) : ed a b (i + 1) (j + 1) = min (ed a b i j + if a i = b j then 0 else 1) (min (ed a b i (j + 1)) (ed a b (i + 1) j) + 1) := rfl
theorem ed_i0 (a b : Nat → Nat) (i : Nat) : ed a b i 0 = i := by cases i <;> rfl
theorem ed_sym (a b : Nat → Nat) : ∀ i j, ed a b i j = ed b a j i := by
  intro i
  induction i with
  | zero => intro j; rw [ed_i0]; rfl
  | succ i ih =>
    intro j
    induction j with
    | zero => rfl
    | succ j jh =>
      rw [ed_ss, ed_ss, ih j, ih (j + 1), jh, Nat.min_comm (ed b a (j + 1) i)]
      by_cases q : a i = b j
      · rw [if_pos q, if_pos q.symm]
      · rw [if_neg q, if_neg (fun z => q z.symm)]
theorem ed_le (a b : Nat → Nat) : ∀ i j, ed a b i j ≤ max i j := by
  intro i
  induction i with
  | zero => intro j; rw [ed_00]; omega
  | succ i ih =>
    intro j
    cases j with
    | zero => rw [ed_s0]; omega
    | succ j =>
      rw [ed_ss]
      have := ih j
      split <;> omega
theorem ed_self (a : Nat → Nat) : ∀ i, ed a a i i = 0 := by
  intro i
  induction i with
  | zero => rfl
  | succ i ih => rw [ed_ss, ih, if_pos rfl]; omega
/-- the first place of m from i where two are unlike -/
def unl (a b : Nat → Nat) : Nat → Nat → Option Nat
  | 0, _ => none
  | m + 1, i => if a i = b i then unl a b m (i + 1) else some i
theorem unl_sym (a b : Nat → Nat) : ∀ m i, unl a b m i = unl b a m i
  | 0, _ => rfl
  | m + 1, i => by
    unfold unl
    by_cases q : a i = b i
    · rw [if_pos q, if_pos q.symm]; exact unl_sym a b m (i + 1)
    · rw [if_neg q, if_neg (fun z => q z.symm)]
def sm (f : Nat → Nat) : Nat → Nat → Nat
  | 0, _ => 0
  | m + 1, i => f i + sm f m (i + 1)
theorem sm_congr {f g : Nat → Nat} : ∀ m i, (∀ j, i ≤ j → j < i + m → f j = g j) → sm f m i = sm g m i
  | 0, _, _ => rfl
  | m + 1, i, h => by
    unfold sm
    rw [h i (Nat.le_refl i) (by omega), sm_congr m (i + 1) (fun j h1 h2 => h j (by omega) (by omega))]
theorem sm_le {f : Nat → Nat} {c : Nat} : ∀ m i, (∀ j, i ≤ j → j < i + m → f j ≤ c) → sm f m i ≤ m * c
  | 0, _, _ => by unfold sm; omega
  | m + 1, i, h => by
    unfold sm
    have h1 := h i (Nat.le_refl i) (by omega)
    have h2 := sm_le (f := f) (c := c) m (i + 1) (fun j h1 h2 => h j (by omega) (by omega))
    rw [Nat.add_mul]
    omega
def pln (a b : Nat → Nat) (i : Nat) : Nat := if a i = b i then 0 else 1
def sbn (a b : Nat → Nat) (i : Nat) : Nat := (a i - b i) + (b i - a i)
/-- APART by a measure -/
def apart (m w v : Nat) : Nat := if w = v then 0 else if m = 0 then ed (lt w) (lt v) (cl w) (cl v) else if m = 1 then sm (pln (lt w) (lt v)) 6 0 else if m = 2 then sm (sbn (lt w) (lt v)) 6 0 else (match unl (lt w) (lt v) 6 0 with | some n => 7 - n | none => 0)
theorem apart_sym (m w v : Nat) : apart m w v = apart m v w := by
  unfold apart
  by_cases q : w = v
  · rw [if_pos q, if_pos q.symm]
  · have q2 : ¬ v = w := fun z => q z.symm
    rw [if_neg q, if_neg q2, ed_sym (lt w) (lt v), unl_sym (lt w)]
    have e1 : pln (lt w) (lt v) = pln (lt v) (lt w) := by
      funext i
      unfold pln
      by_cases z : lt w i = lt v i
      · rw [if_pos z, if_pos z.symm]
      · rw [if_neg z, if_neg (fun y => z y.symm)]
    have e2 : sbn (lt w) (lt v) = sbn (lt v) (lt w) := by
      funext i
      unfold sbn
      omega
    rw [e1, e2]
theorem apart_le (m w v : Nat) : apart m w v ≤ 48 := by
  unfold apart
  split
  · omega
  · split
    · have := ed_le (lt w) (lt v) (cl w) (cl v)
      have := cl_le w
      have := cl_le v
      omega
    · split
      · have := sm_le (f := pln (lt w) (lt v)) (c := 1) 6 0 (fun j _ _ => by unfold pln; split <;> omega)
        omega
      · split
        · have := sm_le (f := sbn (lt w) (lt v)) (c := 8) 6 0 (fun j _ _ => by
            unfold sbn
            have := lt_le w j
            have := lt_le v j
            omega)
          omega
        · split <;> omega
theorem apart_self (m w : Nat) : apart m w w = 0 := if_pos rfl
