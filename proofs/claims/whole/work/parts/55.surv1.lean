/-- a loop upward: what its end says, from what each round keeps -/
theorem lp {α ρ : Type} (N : Nat) (L : Nat → Nat → α → ρ) (J : Nat → α → Prop) (E : ρ → Prop) (fin : ∀ F a, J N a → E (L (F + 1) N a))
    (step : ∀ F i a, i < N → J i a → (∃ a', J (i + 1) a' ∧ L (F + 1) i a = L F (i + 1) a') ∨ E (L (F + 1) i a)) : ∀ m i F a, m < F → i + m = N → J i a → E (L F i a)
  | m, _, 0, _, h, _, _ => absurd h (Nat.not_lt_zero m)
  | 0, i, F + 1, a, _, hi, j => by
    have : i = N := by omega
    subst this
    exact fin F a j
  | m + 1, i, F + 1, a, hF, hi, j => by
    rcases step F i a (by omega) j with ⟨a', g1, g2⟩ | g
    · rw [g2]
      exact lp N L J E fin step m (i + 1) F a' (by omega) (by omega) g1
    · exact g
theorem ex_pair {α β : Type} {P : α → β → Prop} (a : α) (b : β) (h : P a b) : ∃ q : α × β, P q.1 q.2 := ⟨(a, b), h⟩
/-- what the surveys ask of the store -/
def Cv (σ : Hp) (V : Vt) : Prop := (σ.kd 33 = 18 ∧ σ.kd 3 = 17 ∧ σ.kd 19 = 11 ∧ σ.kd 4 = 1 ∧ σ.ln 4 = 40 ∧ σ.kd 20 = 1 ∧ σ.ln 20 = 1600) ∧ (σ.fr 800 33 = 3 ∧ σ.fr 801 33 = 19 ∧ σ.fr 700 3 = 4 ∧ σ.fr 101 19 = 20) ∧ (∀ t, t < 40 → σ.ar 4 t = nI (V.W t)) ∧ (∀ a b, hs V a → hs V b → σ.ar 20 (a * 40 + b) = nI (far V a b)) ∧ σ.fi 701 3 = nI (cn V)
section CV
variable {σ : Hp} {V : Vt}
theorem Cv.s (c : Cv σ V) : gfr σ 18 800 33 = some 3 := by rw [gfr_ok c.1.1, c.2.1.1]
theorem Cv.f (c : Cv σ V) : gfr σ 18 801 33 = some 19 := by rw [gfr_ok c.1.1, c.2.1.2.1]
theorem Cv.k3 (c : Cv σ V) {Y : Type} {o : Option Y} : ckd σ 3 17 o = o := ckd_ok c.1.2.1
theorem Cv.k19 (c : Cv σ V) {Y : Type} {o : Option Y} : ckd σ 19 11 o = o := ckd_ok c.1.2.2.1
theorem Cv.k33 (c : Cv σ V) {Y : Type} {o : Option Y} : ckd σ 33 18 o = o := ckd_ok c.1.1
theorem Cv.n (c : Cv σ V) : gfi σ 17 701 3 = some (nI (cn V)) := by rw [gfi_ok c.1.2.1, c.2.2.2.2]
theorem Cv.has (c : Cv σ V) (hv : Vw V) {t : Nat} (ht : t < 2 ^ 31) : kX7_has σ 3 (nI t) = some (bI (hs V t)) := by
  have e40 : (40 : Int32) = nI 40 := rfl
  unfold kX7_has
  rw [if_neg (nI_pos ht), e40]
  by_cases q : t < 40
  · rw [if_neg (nI_ge q (by decide)), gfr_ok c.1.2.1, bind_s, c.2.1.2.2.1, ald_ok c.1.2.2.2.1 (by rw [c.1.2.2.2.2.1]; exact q) ht, bind_s, c.2.2.1 t q]
    have w31 := isW_31 (hv.1 t q)
    by_cases z : V.W t = 0
    · rw [bI_f (fun y => y.2 z), if_pos (by rw [z]; rfl)]
      rfl
    · rw [if_neg (nI_ne0 (by omega) w31), bI_t ⟨q, z⟩]
      rfl
  · rw [if_pos (nI_le (by omega) ht), bI_f (fun y => q y.1)]
    rfl
theorem kX7_has_neg {s : Nat} {x : Int32} (hx : x < 0) : kX7_has σ s x = some 0 := by
  unfold kX7_has
  rw [if_pos hx]
  rfl
theorem Cv.of (c : Cv σ V) {a b : Nat} (ha : hs V a) (hb : hs V b) : kX1_of σ 19 (nI a) (nI b) = some (nI (far V a b)) := by
  have e40 : (40 : Int32) = nI 40 := rfl
  have := ha.1
  have := hb.1
  unfold kX1_of
  rw [gfr_ok c.1.2.2.1, bind_s, c.2.1.2.2.2, e40, pk_mul, nI_add, ald_ok c.1.2.2.2.2.2.1 (by rw [c.1.2.2.2.2.2.2]; omega) (by omega), bind_s, c.2.2.2.1 a b ha hb]
theorem Cv.pr (c : Cv σ V) (hv : Vw V) {a b : Nat} (ha : a < b) (hb : b < 2 ^ 31) : kX8_isPair σ 33 (nI a) (nI b) = some (bI (hs V a ∧ hs V b)) := by
  unfold kX8_isPair
  rw [if_neg (nI_ge ha hb)]
  simp only [c.s, c.k3, bind_s, c.has hv hb, c.has hv (Nat.lt_trans ha hb), ite_bI]
  by_cases q : hs V a
  · by_cases z : hs V b
    · rw [if_pos q, if_pos z, bI_t ⟨q, z⟩]; rfl
    · rw [if_pos q, if_neg z, bI_f (fun y => z y.2)]; rfl
  · rw [if_neg q, bI_f (fun y => q y.1)]; rfl
end CV
/-- both views of one state -/
def Bv (σ : Hp) (S : MS) (V : Vt) (π : Nat → Nat) : Prop := Cv σ V ∧ RE (S.1 0) 2 V π ∧ Vw V
theorem Bv.s2 {σ : Hp} {S S' : MS} {V : Vt} {π : Nat → Nat} (h : Bv σ S V π) (g : S2 S S') : Bv σ S' V π := by
  refine ⟨h.1, ?_, h.2.2⟩
  rw [g.r (by decide) (by decide)]
  exact h.2.1
theorem Bv.r {σ : Hp} {S : MS} {V : Vt} {π : Nat → Nat} (h : Bv σ S V π) {t : Nat} (ht : t < 2 ^ 31) : r_isThing S (nI t) = some (bI (hs V t)) := r_isThing_eq h.2.1.w h.2.2 ht
theorem Bv.c {σ : Hp} {S : MS} {V : Vt} {π : Nat → Nat} (h : Bv σ S V π) {t : Nat} (ht : t < 2 ^ 31) : kX7_has σ 3 (nI t) = some (bI (hs V t)) := h.1.has h.2.2 ht
theorem Bv.fa {σ : Hp} {S : MS} {V : Vt} {π : Nat → Nat} (h : Bv σ S V π) {a b : Nat} (ha : hs V a) (hb : hs V b) : ∃ S', r_farOf S (nI a) (nI b) = some (nI (far V a b), S') ∧ S2 S S' := r_farOf_eq h.2.1.w h.2.2 ha hb
theorem Bv.le {σ : Hp} {S : MS} {V : Vt} {π : Nat → Nat} (h : Bv σ S V π) (a b : Nat) : far V a b ≤ 99 := far_le h.2.2 a b
def su (f : Nat → Nat) : Nat → Nat
  | 0 => 0
  | i + 1 => su f i + f i
theorem su_le {f : Nat → Nat} {c : Nat} (h : ∀ i, f i ≤ c) : ∀ n, su f n ≤ n * c
  | 0 => by unfold su; omega
  | n + 1 => by
    unfold su
    have := su_le h n
    have := h n
    rw [Nat.add_mul]
    omega
section B
variable {σ : Hp} {S : MS} {V : Vt} {π : Nat → Nat}
def sumF (V : Vt) (t : Nat) (n : Nat) : Nat := su (fun o => if hs V o then far V t o else 0) n
theorem c_sumFrom (h : Bv σ S V π) {t : Nat} (ht : hs V t) : kX8_sumFrom σ 33 (nI t) = some (nI (sumF V t 40)) := by
  have e0 : (0 : Int32) = nI 0 := rfl
  have e40 : (40 : Int32) = nI 40 := rfl
  unfold kX8_sumFrom
  refine lp 40 (fun F i (a : Int32) => kX8_sumFrom_4 σ F 33 (nI t) a (nI i)) (fun i a => a = nI (sumF V t i)) (fun r => r = some (nI (sumF V t 40))) (fun F a j => ?_) (fun F i a hi j => Or.inl ⟨nI (sumF V t (i + 1)), rfl, ?_⟩) 40 0 FU (nI 0) (by decide) rfl rfl
  · subst j
    unfold kX8_sumFrom_4
    rw [if_pos (by decide)]
  · subst j
    show kX8_sumFrom_4 σ (F + 1) 33 (nI t) (nI (sumF V t i)) (nI i) = _
    rw [kX8_sumFrom_4.eq_2, e40, if_neg (nI_ge hi (by decide))]
    simp only [h.1.s, h.1.k3, h.1.f, h.1.k19, bind_s, h.c (show i < 2 ^ 31 by omega), ite_bI]
    unfold kX8_sumFrom_35
    have e : sumF V t (i + 1) = sumF V t i + (if hs V i then far V t i else 0) := rfl
    by_cases q : hs V i
    · rw [if_pos q, h.1.of ht q, bind_s, nI_add, nI_1, e, if_pos q]
    · rw [if_neg q, e0, nI_add, nI_1, e, if_neg q]
theorem r_sumFrom_eq (h : Bv σ S V π) {t : Nat} (ht : hs V t) : ∃ S', r_sumFrom S (nI t) = some (nI (sumF V t 40), S') ∧ S2 S S' := by
  have e0 : (0 : Int32) = nI 0 := rfl
  have e40 : (40 : Int32) = nI 40 := rfl
  have t40 := ht.1
  unfold r_sumFrom
  refine lp 40 (fun F i (a : MS) => r_sumFrom_4 F (nI t) (nI (sumF V t i)) (nI i) a) (fun i a => S2 S a) (fun r => ∃ S', r = some (nI (sumF V t 40), S') ∧ S2 S S') (fun F a j => ?_) (fun F i a hi j => Or.inl ?_) 40 0 FU S (by decide) rfl S2.rfl
  · refine ⟨a, ?_, j⟩
    unfold r_sumFrom_4
    rw [if_pos (by decide)]
  · have hb := h.s2 j
    have e : sumF V t (i + 1) = sumF V t i + (if hs V i then far V t i else 0) := rfl
    show ∃ a', S2 S a' ∧ r_sumFrom_4 (F + 1) (nI t) (nI (sumF V t i)) (nI i) a = r_sumFrom_4 F (nI t) (nI (sumF V t (i + 1))) (nI (i + 1)) a'
    rw [r_sumFrom_4.eq_2, e40, if_neg (nI_ge hi (by decide)), hb.r (show i < 2 ^ 31 by omega), bind_s, ite_bI]
    unfold r_sumFrom_33 r_sumFrom_34
    by_cases q : hs V i
    · rw [if_pos q, e, if_pos q]
      by_cases z : i = t
      · subst z
        rw [if_pos rfl, far_self h.2.2, e0, nI_add, nI_1]
        exact ⟨a, j, rfl⟩
      · rw [if_neg (fun y => z ((nI_eq (by omega) (by omega)).mp y))]
        obtain ⟨S', g1, g2⟩ := hb.fa ht q
        rw [g1, bd2_s, nI_add, nI_1]
        exact ⟨S', j.trans g2, rfl⟩
    · rw [if_neg q, e, if_neg q, e0, nI_add, nI_1]
      exact ⟨a, j, rfl⟩
end B
