section GR2
variable {σ : Hp} {S : MS} {V : Vt} {π : Nat → Nat}
/-- how many things have the label of one -/
def gsz (V : Vt) (lab : Nat → Nat) (x : Nat) : Nat := su (fun t => if hs V t ∧ lab t = lab x then 1 else 0) 40
theorem c_size (h : Bv σ S V π) (sr : Sr σ) {lab : Nat → Nat} (lg : Lg V lab) (gc : Gc σ lab) {x : Nat} (hx : x < 40) : kX8_sizeOfGroup σ 33 (nI x) = some (nI (gsz V lab x)) := by
  have e40 : (40 : Int32) = nI 40 := rfl
  have f6 : gfr σ 18 806 33 = some 35 := by rw [gfr_ok h.1.1.1, sr.2.2.2.1]
  have al : ∀ t, t < 40 → ald σ 1 35 (nI t) = some (nI (lab t)) := fun t ht => by rw [ald_ok sr.1.2.1 (by rw [sr.2.1.2.1]; exact ht) (by omega), gc t ht]
  unfold kX8_sizeOfGroup
  refine lp 40 (fun F i (_ : Unit) => kX8_sizeOfGroup_4 σ F 33 (nI x) (nI (su (fun t => if hs V t ∧ lab t = lab x then 1 else 0) i)) (nI i)) (fun _ _ => True) (fun r => r = some (nI (gsz V lab x))) (fun F _ _ => ?_) (fun F i _ hi _ => Or.inl ⟨(), trivial, ?_⟩) 40 0 FU () FU_gt rfl trivial
  · show kX8_sizeOfGroup_4 σ (F + 1) 33 (nI x) (nI (gsz V lab x)) (nI 40) = _
    rw [kX8_sizeOfGroup_4.eq_2, if_pos (by decide)]
  · have li := lg.lt hi
    have lx := lg.lt hx
    show kX8_sizeOfGroup_4 σ (F + 1) 33 (nI x) (nI (su (fun t => if hs V t ∧ lab t = lab x then 1 else 0) i)) (nI i) = kX8_sizeOfGroup_4 σ F 33 (nI x) (nI (su (fun t => if hs V t ∧ lab t = lab x then 1 else 0) i + (if hs V i ∧ lab i = lab x then 1 else 0))) (nI (i + 1))
    rw [kX8_sizeOfGroup_4.eq_2, e40, if_neg (nI_ge hi (by decide)), h.1.s, bind_s, h.1.k3, h.c (show i < 2 ^ 31 by omega), bind_s, ite_bI, f6, bind_s, al i hi, bind_s, bind_s, al x hx, bind_s]
    unfold kX8_sizeOfGroup_41 kX8_sizeOfGroup_42
    rw [show (0 : Int32) = nI 0 from rfl, nI_add, nI_1, nI_1]
    by_cases q : hs V i
    · rw [if_pos q]
      by_cases z : lab i = lab x
      · rw [if_pos (by rw [z]), if_pos ⟨q, z⟩]
      · rw [if_neg (fun y => z ((nI_eq (by omega) (by omega)).mp y)), if_neg (fun y => z y.2)]
    · rw [if_neg q, if_neg (fun y => q y.1)]
theorem r_isFirst_eq {T : MS} {lab : Nat → Nat} (lg : Lg V lab) (gr : Gr T V lab) {t : Nat} (ht : hs V t) : (fst1 V lab t → r_isFirst T (nI t) = some 1) ∧ (¬ fst1 V lab t → r_isFirst T (nI t) = some 0) := by
  have t40 := ht.1
  have lt := lg.lt t40
  unfold r_isFirst
  have rdt : rd T 24 (nI t) = some (nI (lab t)) := by rw [rd_ok (show t < m_len 24 by rw [len24]; omega) (by omega), gr t t40, if_pos ht]
  refine lp t (fun F i (_ : Unit) => r_isFirst_2 T F (nI t) (nI i)) (fun i _ => ∀ t', t' < i → hs V t' → lab t' ≠ lab t) (fun r => (fst1 V lab t → r = some 1) ∧ (¬ fst1 V lab t → r = some 0)) (fun F _ J => ?_) (fun F i _ hi J => ?_) t 0 FU () (FU_gt (by omega)) (by omega) (fun t' h => absurd h (Nat.not_lt_zero _))
  · have e : r_isFirst_2 T (F + 1) (nI t) (nI t) = some 1 := by
      rw [r_isFirst_2.eq_2, if_pos (nI_le (Nat.le_refl _) (by omega))]; rfl
    exact ⟨fun _ => e, fun y => absurd ⟨ht, J⟩ y⟩
  · have li := lg.lt (show i < 40 by omega)
    have rdi : rd T 24 (nI i) = some (if hs V i then nI (lab i) else -1) := by rw [rd_ok (show i < m_len 24 by rw [len24]; omega) (by omega), gr i (by omega)]
    show (∃ a', _ ∧ r_isFirst_2 T (F + 1) (nI t) (nI i) = r_isFirst_2 T F (nI t) (nI (i + 1))) ∨ ((fst1 V lab t → r_isFirst_2 T (F + 1) (nI t) (nI i) = some 1) ∧ (¬ fst1 V lab t → r_isFirst_2 T (F + 1) (nI t) (nI i) = some 0))
    rw [r_isFirst_2.eq_2, if_neg (nI_ge hi (by omega)), rdi, bind_s, rdt, bind_s]
    by_cases q : hs V i
    · rw [if_pos q]
      by_cases z : lab i = lab t
      · rw [if_pos (by rw [z])]
        exact Or.inr ⟨fun y => absurd z (y.2 i hi q), fun _ => rfl⟩
      · rw [if_neg (fun y => z ((nI_eq (by omega) (by omega)).mp y)), nI_1]
        refine Or.inl ⟨(), fun t' ht' hst => ?_, rfl⟩
        by_cases y : t' = i
        · rw [y]; exact z
        · exact J t' (by omega) hst
    · rw [if_neg q, if_neg (fun y => (nI_m1 (by omega)).mp y.symm), nI_1]
      refine Or.inl ⟨(), fun t' ht' hst => ?_, rfl⟩
      by_cases y : t' = i
      · exact absurd (y ▸ hst) q
      · exact J t' (by omega) hst
theorem r_groups32 (h : Bv σ S V π) {lab : Nat → Nat} (lg : Lg V lab) (gr : Gr S V lab) : r_groups_32 FU (-1) 0 0 S = some (nI (Fst V lab), S) ∧ ∀ x, hs V x → r_groups_32 FU (nI x) 0 0 S = some (nI (gsz V lab x), S) := by
  have e40 : (40 : Int32) = nI 40 := rfl
  constructor
  · unfold Fst
    classical
    refine lp 40 (fun F i (_ : Unit) => r_groups_32 F (-1) (nI (su (fun t => if fst1 V lab t then 1 else 0) i)) (nI i) S) (fun _ _ => True) (fun r => r = some (nI (su (fun t => if fst1 V lab t then 1 else 0) 40), S)) (fun F _ _ => ?_) (fun F i _ hi _ => Or.inl ⟨(), trivial, ?_⟩) 40 0 FU () FU_gt rfl trivial
    · show r_groups_32 (F + 1) (-1) (nI (su (fun t => if fst1 V lab t then 1 else 0) 40)) (nI 40) S = _
      rw [r_groups_32.eq_2, if_pos (by decide)]
    · show r_groups_32 (F + 1) (-1) (nI (su (fun t => if fst1 V lab t then 1 else 0) i)) (nI i) S = r_groups_32 F (-1) (nI (su (fun t => if fst1 V lab t then 1 else 0) i + (if fst1 V lab i then 1 else 0))) (nI (i + 1)) S
      rw [r_groups_32.eq_2, e40, if_neg (nI_ge hi (by decide)), h.r (show i < 2 ^ 31 by omega), bind_s, ite_bI, if_pos (rfl : (-1 : Int32) = -1)]
      unfold r_groups_95 r_groups_97
      by_cases q : hs V i
      · have f := r_isFirst_eq lg gr q
        rw [if_pos q]
        by_cases z : fst1 V lab i
        · rw [f.1 z, bind_s, if_neg (by decide), if_pos z, nI_1, nI_1]
        · rw [f.2 z, bind_s, if_pos rfl, if_neg z, nI_1, Int32.add_zero]; rfl
      · rw [if_neg q, if_neg (fun y => q y.1), nI_1]; rfl
  · intro x hx
    have x40 := hx.1
    have lx := lg.lt x40
    have rdx : rd S 24 (nI x) = some (nI (lab x)) := by rw [rd_ok (show x < m_len 24 by rw [len24]; omega) (by omega), gr x x40, if_pos hx]
    refine lp 40 (fun F i (_ : Unit) => r_groups_32 F (nI x) (nI (su (fun t => if hs V t ∧ lab t = lab x then 1 else 0) i)) (nI i) S) (fun _ _ => True) (fun r => r = some (nI (gsz V lab x), S)) (fun F _ _ => ?_) (fun F i _ hi _ => Or.inl ⟨(), trivial, ?_⟩) 40 0 FU () FU_gt rfl trivial
    · show r_groups_32 (F + 1) (nI x) (nI (gsz V lab x)) (nI 40) S = _
      rw [r_groups_32.eq_2, if_pos (by decide)]
    · have li := lg.lt hi
      show r_groups_32 (F + 1) (nI x) (nI (su (fun t => if hs V t ∧ lab t = lab x then 1 else 0) i)) (nI i) S = r_groups_32 F (nI x) (nI (su (fun t => if hs V t ∧ lab t = lab x then 1 else 0) i + (if hs V i ∧ lab i = lab x then 1 else 0))) (nI (i + 1)) S
      rw [r_groups_32.eq_2, e40, if_neg (nI_ge hi (by decide)), h.r (show i < 2 ^ 31 by omega), bind_s, ite_bI, if_neg (fun y => (nI_m1 (by omega)).mp y)]
      unfold r_groups_95 r_groups_97
      by_cases q : hs V i
      · rw [if_pos q, rd_ok (show i < m_len 24 by rw [len24]; omega) (by omega), bind_s, gr i hi, if_pos q, rdx, bind_s]
        by_cases z : lab i = lab x
        · rw [if_pos (by rw [z]), if_pos ⟨q, z⟩, nI_1, nI_1]
        · rw [if_neg (fun y => z ((nI_eq (by omega) (by omega)).mp y)), if_neg (fun y => z y.2), nI_1, Int32.add_zero]; rfl
      · rw [if_neg q, if_neg (fun y => q y.1), nI_1]; rfl
end GR2
-- sums over pages
theorem su_list {f : Nat → Nat} : ∀ n, su f n = ((List.range n).map f).sum
  | 0 => rfl
  | n + 1 => by
    rw [List.range_succ, List.map_append, List.sum_append, ← su_list n]
    show su f n + f n = su f n + (f n + 0)
    rfl
theorem su_perm {f h : Nat → Nat} {π : Nat → Nat} {U : Nat} (h1 : ∀ p, p < U → π p < U) (h2 : ∀ p q, p < U → q < U → π p = π q → p = q) (h3 : ∀ q, q < U → ∃ p, p < U ∧ π p = q) (hf : ∀ p, p < U → f (π p) = h p) : su f U = su h U := by
  rw [su_list, su_list]
  have e : (List.range U).map h = ((List.range U).map π).map f := by
    rw [List.map_map]
    exact List.map_congr_left (fun p hp => (hf p (List.mem_range.mp hp)).symm)
  rw [e]
  have nd : ((List.range U).map π).Nodup := by
    rw [List.nodup_iff_pairwise_ne, List.pairwise_map]
    refine List.Pairwise.imp_of_mem ?_ (List.nodup_range (n := U))
    intro a b ha hb hab z
    exact hab (h2 a b (List.mem_range.mp ha) (List.mem_range.mp hb) z)
  have pm : (List.range U).Perm ((List.range U).map π) := by
    rw [List.perm_ext_iff_of_nodup List.nodup_range nd]
    intro x
    rw [List.mem_range, List.mem_map]
    constructor
    · intro hx
      obtain ⟨p, p1, p2⟩ := h3 x hx
      exact ⟨p, List.mem_range.mpr p1, p2⟩
    · intro ⟨p, p1, p2⟩
      rw [← p2]; exact h1 p (List.mem_range.mp p1)
  exact (pm.map f).sum_nat
theorem su_zero {f : Nat → Nat} {U : Nat} (h : ∀ q, U ≤ q → f q = 0) : ∀ n, U ≤ n → su f n = su f U
  | n, hn => by
    induction n with
    | zero => have : U = 0 := by omega
              rw [this]
    | succ n ih =>
      by_cases z : U = n + 1
      · rw [z]
      · show su f n + f n = _
        rw [ih (by omega), h n (by omega)]
        rfl
