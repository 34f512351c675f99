section MEAN
variable {σ : Hp} {S : MS} {V : Vt}
/-- how far the later ones of a pair are, and how many -/
def prf (V : Vt) (a b : Nat) : Nat := if hs V a ∧ hs V b then far V a b else 0
def prn (V : Vt) (a b : Nat) : Nat := if hs V a ∧ hs V b then 1 else 0
def sf (V : Vt) (a : Nat) : Nat := su (fun i => prf V a (a + 1 + i)) (40 - (a + 1))
def sn (V : Vt) (a : Nat) : Nat := su (fun i => prn V a (a + 1 + i)) (40 - (a + 1))
def fSum (V : Vt) : Nat := su (sf V) 40
def nPairs (V : Vt) : Nat := su (sn V) 40
theorem c_sumOfPairs (c : Cv σ V) (hv : Vw V) : kX8_sumOfPairs σ 33 = some (nI (fSum V)) := by
  have e40 : (40 : Int32) = nI 40 := rfl
  unfold kX8_sumOfPairs fSum
  refine lp 40 (fun F a (_ : Unit) => kX8_sumOfPairs_4 σ F 33 (nI (su (sf V) a)) (nI a)) (fun _ _ => True) (fun r => r = some (nI (su (sf V) 40))) (fun F _ _ => ?_) (fun F a _ ha _ => Or.inl ⟨(), trivial, ?_⟩) 40 0 FU () (FU_gt (by omega)) (by omega) trivial
  · show kX8_sumOfPairs_4 σ (F + 1) 33 (nI (su (sf V) 40)) (nI 40) = _
    rw [kX8_sumOfPairs_4.eq_2, if_pos (by decide)]
  · show kX8_sumOfPairs_4 σ (F + 1) 33 (nI (su (sf V) a)) (nI a) = kX8_sumOfPairs_4 σ F 33 (nI (su (sf V) a + sf V a)) (nI (a + 1))
    rw [kX8_sumOfPairs_4.eq_2, e40, if_neg (nI_ge ha (by omega)), nI_1]
    generalize su (sf V) a = n
    unfold sf
    generalize hN : 40 - (a + 1) = N
    refine lp N (fun F' i (_ : Unit) => kX8_sumOfPairs_14 σ (kX8_sumOfPairs_4 σ F) F' 33 (nI (n + su (fun i => prf V a (a + 1 + i)) i)) (nI a) (nI (a + 1 + i))) (fun _ _ => True) (fun r => r = kX8_sumOfPairs_4 σ F 33 (nI (n + su (fun i => prf V a (a + 1 + i)) N)) (nI (a + 1))) (fun F' _ _ => ?_) (fun F' i _ hi _ => Or.inl ⟨(), trivial, ?_⟩) N 0 FU () (FU_gt (by omega)) (by omega) trivial
    · show kX8_sumOfPairs_14 σ (kX8_sumOfPairs_4 σ F) (F' + 1) 33 (nI (n + su (fun i => prf V a (a + 1 + i)) N)) (nI a) (nI (a + 1 + N)) = _
      rw [kX8_sumOfPairs_14.eq_2, e40, if_pos (nI_le (by omega) (by omega)), nI_1]
    · show kX8_sumOfPairs_14 σ (kX8_sumOfPairs_4 σ F) (F' + 1) 33 (nI (n + su (fun i => prf V a (a + 1 + i)) i)) (nI a) (nI (a + 1 + i)) = kX8_sumOfPairs_14 σ (kX8_sumOfPairs_4 σ F) F' 33 (nI (n + (su (fun i => prf V a (a + 1 + i)) i + prf V a (a + 1 + i)))) (nI a) (nI (a + 1 + (i + 1)))
      rw [kX8_sumOfPairs_14.eq_2, e40, if_neg (nI_ge (by omega) (by omega)), c.k33, c.pr hv (by omega) (by omega), bind_s, bI_0']
      unfold kX8_sumOfPairs_43 prf
      by_cases z : hs V a ∧ hs V (a + 1 + i)
      · rw [if_neg (not_not_intro z), if_pos z, c.f, bind_s, c.k19, c.of z.1 z.2, bind_s, nI_add, nI_1, Nat.add_assoc]; rfl
      · rw [if_pos z, if_neg z, nI_1, Int32.add_zero]; rfl
theorem r_mean_eq (h : RW (S.1 0) 2 V) (hv : Vw V) : ∃ T, S2 S T ∧ r_mean S = if nPairs V = 0 then some (0, T) else (fop (FP.fdiv (FP.i2f (nI (fSum V))) (FP.i2f (nI (nPairs V))))).bind (fun v5 => (r_bits v5).bind (fun v6 => some (v6, T))) := by
  have e40 : (40 : Int32) = nI 40 := rfl
  have b1 : ∀ a, sn V a ≤ 40 := fun a => by
    have : sn V a ≤ (40 - (a + 1)) * 1 := su_le (fun i => by show prn V a (a + 1 + i) ≤ 1; unfold prn; split <;> omega) _
    omega
  have b2 : nPairs V ≤ 40 * 40 := su_le b1 40
  unfold r_mean
  refine lp 40 (fun F a (T : MS) => r_mean_6 F (nI (su (sf V) a)) (nI (su (sn V) a)) (nI a) T) (fun _ T => S2 S T) (fun r => ∃ T, S2 S T ∧ r = if nPairs V = 0 then some (0, T) else (fop (FP.fdiv (FP.i2f (nI (fSum V))) (FP.i2f (nI (nPairs V))))).bind (fun v5 => (r_bits v5).bind (fun v6 => some (v6, T)))) (fun F T j => ⟨T, j, ?_⟩) (fun F a T ha j => Or.inl ?_) 40 0 FU S (FU_gt (by omega)) (by omega) S2.rfl
  · show r_mean_6 (F + 1) (nI (fSum V)) (nI (nPairs V)) (nI 40) T = _
    rw [r_mean_6.eq_2, if_pos (by decide)]
    by_cases z : nPairs V = 0
    · rw [if_pos z, z, if_pos (show nI 0 = 0 from rfl)]
    · rw [if_neg z, if_neg (nI_ne0 (by omega) (by omega))]
  · show ∃ T', S2 S T' ∧ r_mean_6 (F + 1) (nI (su (sf V) a)) (nI (su (sn V) a)) (nI a) T = r_mean_6 F (nI (su (sf V) a + sf V a)) (nI (su (sn V) a + sn V a)) (nI (a + 1)) T'
    rw [r_mean_6.eq_2, e40, if_neg (nI_ge ha (by omega)), nI_1]
    generalize su (sf V) a = n
    generalize su (sn V) a = m
    unfold sf sn
    generalize hN : 40 - (a + 1) = N
    refine lp N (fun F' i (T' : MS) => r_mean_17 (r_mean_6 F) F' (nI (n + su (fun i => prf V a (a + 1 + i)) i)) (nI (m + su (fun i => prn V a (a + 1 + i)) i)) (nI a) (nI (a + 1 + i)) T') (fun _ T' => S2 S T') (fun r => ∃ T', S2 S T' ∧ r = r_mean_6 F (nI (n + su (fun i => prf V a (a + 1 + i)) N)) (nI (m + su (fun i => prn V a (a + 1 + i)) N)) (nI (a + 1)) T') (fun F' T' j' => ⟨T', j', ?_⟩) (fun F' i T' hi j' => Or.inl ?_) N 0 FU T (FU_gt (by omega)) (by omega) j
    · show r_mean_17 (r_mean_6 F) (F' + 1) (nI (n + su (fun i => prf V a (a + 1 + i)) N)) (nI (m + su (fun i => prn V a (a + 1 + i)) N)) (nI a) (nI (a + 1 + N)) T' = _
      rw [r_mean_17.eq_2, e40, if_pos (nI_le (by omega) (by omega)), nI_1]
    · have rw' : RW (T'.1 0) 2 V := by rw [j'.r (by decide) (by decide)]; exact h
      show ∃ T2, S2 S T2 ∧ r_mean_17 (r_mean_6 F) (F' + 1) (nI (n + su (fun i => prf V a (a + 1 + i)) i)) (nI (m + su (fun i => prn V a (a + 1 + i)) i)) (nI a) (nI (a + 1 + i)) T' = r_mean_17 (r_mean_6 F) F' (nI (n + (su (fun i => prf V a (a + 1 + i)) i + prf V a (a + 1 + i)))) (nI (m + (su (fun i => prn V a (a + 1 + i)) i + prn V a (a + 1 + i)))) (nI a) (nI (a + 1 + (i + 1))) T2
      rw [r_mean_17.eq_2, e40, if_neg (nI_ge (by omega) (by omega)), r_isThing_eq rw' hv (by omega), bind_s, bI_0', r_isThing_eq rw' hv (by omega), bind_s, bI_0']
      unfold r_mean_57 prf prn
      by_cases z : hs V a
      · by_cases y : hs V (a + 1 + i)
        · obtain ⟨T3, g1, g2⟩ := r_farOf_eq rw' hv z y
          refine ⟨T3, j'.trans g2, ?_⟩
          rw [if_neg (not_not_intro z), if_neg (not_not_intro y), if_pos ⟨z, y⟩, if_pos ⟨z, y⟩, g1, bd2_s, nI_add, nI_1, nI_1, Nat.add_assoc n, Nat.add_assoc m]; rfl
        · refine ⟨T', j', ?_⟩
          rw [if_neg (not_not_intro z), if_pos y, if_neg (fun q => y q.2), if_neg (fun q => y q.2), nI_1]; rfl
      · refine ⟨T', j', ?_⟩
        rw [if_pos z, if_neg (fun q => z q.1), if_neg (fun q => z q.1), nI_1]; rfl
/-- what the first n hold, and the rest -/
theorem su_split (f : Nat → Nat) (a : Nat) : ∀ n, su f (a + n) = su f a + su (fun i => f (a + i)) n
  | 0 => rfl
  | n + 1 => by
    show su f (a + n) + f (a + n) = su f a + (su (fun i => f (a + i)) n + f (a + n))
    rw [su_split f a n, Nat.add_assoc]
theorem nPairs_eq (V : Vt) : 2 * nPairs V = cn V * (cn V - 1) := by
  rw [cn_su]
  generalize hf : (fun t => if hs V t then 1 else 0) = f
  have fa : ∀ a, f a = if hs V a then 1 else 0 := fun a => by rw [← hf]
  have key : ∀ a, a ≤ 40 → 2 * su (sn V) a + (su f 40 - su f a) * (su f 40 - su f a - 1) = su f 40 * (su f 40 - 1) := by
    intro a
    induction a with
    | zero => intro _; show 2 * 0 + (su f 40 - 0) * (su f 40 - 0 - 1) = _; simp
    | succ a ih =>
      intro ha
      have ih := ih (by omega)
      have s1 : su f 40 = su f (a + 1) + su (fun i => f (a + 1 + i)) (40 - (a + 1)) := by
        have := su_split f (a + 1) (40 - (a + 1))
        rwa [show a + 1 + (40 - (a + 1)) = 40 by omega] at this
      have s2 : su f (a + 1) = su f a + f a := rfl
      have s3 : sn V a = if hs V a then su (fun i => f (a + 1 + i)) (40 - (a + 1)) else 0 := by
        unfold sn
        by_cases z : hs V a
        · rw [if_pos z]
          refine su_congr _ (fun i _ => ?_)
          show prn V a (a + 1 + i) = f (a + 1 + i)
          rw [fa]; unfold prn
          by_cases y : hs V (a + 1 + i)
          · rw [if_pos ⟨z, y⟩, if_pos y]
          · rw [if_neg (fun q => y q.2), if_neg y]
        · rw [if_neg z]
          have : su (fun i => prn V a (a + 1 + i)) (40 - (a + 1)) ≤ (40 - (a + 1)) * 0 := su_le (fun i => by show prn V a (a + 1 + i) ≤ 0; unfold prn; rw [if_neg (fun q => z q.1)]; omega) _
          omega
      show 2 * (su (sn V) a + sn V a) + _ = _
      rw [← ih, s3]
      generalize su (fun i => f (a + 1 + i)) (40 - (a + 1)) = d at s1
      by_cases z : hs V a
      · have : f a = 1 := by rw [fa, if_pos z]
        rw [if_pos z, show su f 40 - su f (a + 1) = d by omega, show su f 40 - su f a = d + 1 by omega, show d + 1 - 1 = d by omega]
        cases d with
        | zero => omega
        | succ d => rw [show d + 1 - 1 = d by omega, Nat.mul_add, Nat.add_mul (d + 1) 1 (d + 1), Nat.mul_add (d + 1) d 1]; omega
      · have : f a = 0 := by rw [fa, if_neg z]
        rw [if_neg z, show su f 40 - su f (a + 1) = su f 40 - su f a by omega]; omega
  have k := key 40 (by omega)
  rw [Nat.sub_self, Nat.zero_mul] at k
  exact k
theorem fSum_le (hv : Vw V) : fSum V ≤ 99 * nPairs V := by
  have e : ∀ (f h : Nat → Nat) (n : Nat), (∀ i, f i ≤ 99 * h i) → su f n ≤ 99 * su h n := fun f h n q => by
    induction n with
    | zero => exact Nat.le_refl _
    | succ n ih => show su f n + f n ≤ 99 * (su h n + h n); have := q n; omega
  refine e _ _ 40 (fun a => e _ _ _ (fun i => ?_))
  show prf V a (a + 1 + i) ≤ 99 * prn V a (a + 1 + i)
  unfold prf prn
  have := far_le hv a (a + 1 + i)
  by_cases z : hs V a ∧ hs V (a + 1 + i)
  · rw [if_pos z, if_pos z]; omega
  · rw [if_neg z, if_neg z]; omega
end MEAN
