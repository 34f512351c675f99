section B
variable {σ : Hp} {S : MS} {V : Vt} {π : Nat → Nat}
def mdl (V : Vt) : Nat → Option Nat
  | 0 => none
  | i + 1 => if hs V i then (match mdl V i with | none => some i | some c => if sumF V i 40 < sumF V c 40 then some i else some c) else mdl V i
theorem mdl_hs : ∀ {i c : Nat}, mdl V i = some c → hs V c
  | 0, c, h => by cases h
  | i + 1, c, h => by
    unfold mdl at h
    split at h
    · rename_i q
      split at h
      · cases h; exact q
      · split at h
        · cases h; exact q
        · rename_i d hd _
          cases h
          exact mdl_hs hd
    · exact mdl_hs h
theorem sumF_le (hv : Vw V) (t n : Nat) : sumF V t n ≤ n * 99 := su_le (fun o => by
  split
  · exact far_le hv t o
  · omega) n
theorem c_middle (h : Bv σ S V π) : kX8_findMiddle σ 33 = some (o2i (mdl V 40)) := by
  have e0 : (0 : Int32) = nI 0 := rfl
  have e40 : (40 : Int32) = nI 40 := rfl
  unfold kX8_findMiddle
  refine lp 40 (fun F i (a : Int32 × Int32) => kX8_findMiddle_6 σ F 33 a.1 a.2 (nI i)) (fun i a => a.1 = o2i (mdl V i) ∧ ∀ c, mdl V i = some c → a.2 = nI (sumF V c 40)) (fun r => r = some (o2i (mdl V 40))) (fun F a j => ?_) (fun F i a hi j => Or.inl ?_) 40 0 FU (-1, 0) (by decide) rfl ⟨rfl, fun c hc => by cases hc⟩
  · show kX8_findMiddle_6 σ (F + 1) 33 a.1 a.2 (nI 40) = _
    rw [kX8_findMiddle_6.eq_2, if_pos (by decide), j.1]
  · obtain ⟨x1, x2⟩ := a
    obtain ⟨j1, j2⟩ := j
    have j1 : x1 = o2i (mdl V i) := j1
    have j2 : ∀ c, mdl V i = some c → x2 = nI (sumF V c 40) := j2
    show ∃ a', _ ∧ kX8_findMiddle_6 σ (F + 1) 33 x1 x2 (nI i) = _
    rw [kX8_findMiddle_6.eq_2, e40, if_neg (nI_ge hi (by decide))]
    simp only [h.1.s, h.1.k3, h.1.k33, bind_s, h.c (show i < 2 ^ 31 by omega), ite_bI]
    have bi := sumF_le h.2.2 i 40
    unfold kX8_findMiddle_44 kX8_findMiddle_49
    by_cases q : hs V i
    · rw [if_pos q, c_sumFrom h q, bind_s]
      cases z : mdl V i with
      | none =>
        rw [j1, z, if_pos (show o2i none = -1 from rfl), nI_1]
        refine ⟨(nI i, nI (sumF V i 40)), ⟨?_, fun c hc => ?_⟩, rfl⟩
        · show nI i = o2i (mdl V (i + 1))
          unfold mdl
          rw [if_pos q, z]
          rfl
        · unfold mdl at hc
          rw [if_pos q, z] at hc
          cases hc
          rfl
      | some c =>
        have hc := (mdl_hs z).1
        have bc := sumF_le h.2.2 c 40
        rw [j1, z, if_neg (show ¬ o2i (some c) = -1 from fun y => (nI_m1 (by omega)).mp y), j2 c z]
        by_cases y : sumF V i 40 < sumF V c 40
        · rw [if_neg (nI_ge y (by omega)), nI_1]
          refine ⟨(nI i, nI (sumF V i 40)), ⟨?_, fun d hd => ?_⟩, rfl⟩
          · show nI i = o2i (mdl V (i + 1))
            unfold mdl
            rw [if_pos q, z]
            simp only [if_pos y]
            rfl
          · unfold mdl at hd
            rw [if_pos q, z] at hd
            simp only [if_pos y] at hd
            cases hd
            rfl
        · rw [if_pos (nI_le (by omega) (by omega)), nI_1]
          refine ⟨(o2i (some c), nI (sumF V c 40)), ⟨?_, fun d hd => ?_⟩, rfl⟩
          · show o2i (some c) = o2i (mdl V (i + 1))
            unfold mdl
            rw [if_pos q, z]
            simp only [if_neg y]
          · unfold mdl at hd
            rw [if_pos q, z] at hd
            simp only [if_neg y] at hd
            cases hd
            rfl
    · rw [if_neg q, nI_1]
      refine ⟨(x1, x2), ⟨?_, fun c hc => ?_⟩, rfl⟩
      · show x1 = o2i (mdl V (i + 1))
        unfold mdl
        rw [if_neg q]
        exact j1
      · unfold mdl at hc
        rw [if_neg q] at hc
        exact j2 c hc
theorem r_middle_eq (h : Bv σ S V π) : ∃ S', r_middle S = some (o2i (mdl V 40), S') ∧ S2 S S' := by
  have e0 : (0 : Int32) = nI 0 := rfl
  have e40 : (40 : Int32) = nI 40 := rfl
  unfold r_middle
  refine lp 40 (fun F i (a : MS) => r_middle_4 F (o2i (mdl V i)) (nI i) a) (fun i a => S2 S a) (fun r => ∃ S', r = some (o2i (mdl V 40), S') ∧ S2 S S') (fun F a j => ?_) (fun F i a hi j => Or.inl ?_) 40 0 FU S (by decide) rfl S2.rfl
  · refine ⟨a, ?_, j⟩
    rw [r_middle_4.eq_2, if_pos (by decide)]
  · have hb := h.s2 j
    show ∃ a', S2 S a' ∧ r_middle_4 (F + 1) (o2i (mdl V i)) (nI i) a = r_middle_4 F (o2i (mdl V (i + 1))) (nI (i + 1)) a'
    rw [r_middle_4.eq_2, e40, if_neg (nI_ge hi (by decide)), hb.r (show i < 2 ^ 31 by omega), bind_s, ite_bI]
    unfold r_middle_36 r_middle_38
    rw [mdl.eq_2]
    by_cases q : hs V i
    · rw [if_pos q, if_pos q]
      have bi := sumF_le h.2.2 i 40
      cases z : mdl V i with
      | none =>
        rw [if_pos (show o2i none = -1 from rfl), nI_1]
        exact ⟨a, j, rfl⟩
      | some c =>
        have hc := mdl_hs z
        have c40 := hc.1
        have bc := sumF_le h.2.2 c 40
        rw [if_neg (show ¬ o2i (some c) = -1 from fun y => (nI_m1 (by omega)).mp y)]
        obtain ⟨S1, g1, g2⟩ := r_sumFrom_eq hb q
        obtain ⟨S3, g3, g4⟩ := r_sumFrom_eq (hb.s2 g2) hc
        rw [g1, bd2_s, show o2i (some c) = nI c from rfl, g3, bd2_s]
        by_cases y : sumF V i 40 < sumF V c 40
        · rw [if_neg (nI_ge y (by omega)), nI_1]
          simp only [if_pos y]
          exact ⟨S3, (j.trans g2).trans g4, rfl⟩
        · rw [if_pos (nI_le (by omega) (by omega)), nI_1]
          simp only [if_neg y]
          exact ⟨S3, (j.trans g2).trans g4, rfl⟩
    · rw [if_neg q, if_neg q, nI_1]
      exact ⟨a, j, rfl⟩
def lsF (V : Vt) (t : Nat) : Nat → Option Nat
  | 0 => none
  | i + 1 => if hs V i ∧ i ≠ t then (match lsF V t i with | none => some (far V t i) | some x => some (min x (far V t i))) else lsF V t i
theorem lsF_le (hv : Vw V) (t : Nat) : ∀ {i x : Nat}, lsF V t i = some x → x ≤ 99
  | 0, x, h => by cases h
  | i + 1, x, h => by
    have := far_le hv t i
    unfold lsF at h
    split at h
    · split at h
      · cases h; exact this
      · cases h; omega
    · exact lsF_le hv t h
theorem c_leastFrom (h : Bv σ S V π) {t : Nat} (ht : hs V t) : kX8_leastFrom σ 33 (nI t) = some (o2i (lsF V t 40)) := by
  have e40 : (40 : Int32) = nI 40 := rfl
  have t40 := ht.1
  unfold kX8_leastFrom
  refine lp 40 (fun F i (a : Unit) => kX8_leastFrom_4 σ F 33 (nI t) (o2i (lsF V t i)) (nI i)) (fun i a => True) (fun r => r = some (o2i (lsF V t 40))) (fun F a j => ?_) (fun F i a hi j => Or.inl ⟨(), trivial, ?_⟩) 40 0 FU () (by decide) rfl trivial
  · rw [kX8_leastFrom_4.eq_2, if_pos (by decide)]
  · rw [kX8_leastFrom_4.eq_2, e40, if_neg (nI_ge hi (by decide)), lsF.eq_2]
    simp only [h.1.s, h.1.k3, bind_s, h.c (show i < 2 ^ 31 by omega), ite_bI]
    unfold kX8_leastFrom_44 kX8_leastFrom_54
    simp only [h.1.f, h.1.k19, bind_s]
    by_cases z : i = t
    · rw [if_pos (by rw [z]), if_neg (fun y => y.2 z), nI_1]
    · rw [if_neg (fun y => z ((nI_eq (by omega) (by omega)).mp y))]
      by_cases q : hs V i
      · have bi := far_le h.2.2 t i
        have qz : hs V i ∧ i ≠ t := ⟨q, z⟩
        rw [if_pos q, if_pos qz, h.1.of ht q, bind_s, nI_1]
        cases y : lsF V t i with
        | none => rw [if_pos (show o2i none = -1 from rfl)]; rfl
        | some x =>
          have bx := lsF_le h.2.2 t y
          rw [if_neg (show ¬ o2i (some x) = -1 from fun y => (nI_m1 (by omega)).mp y), bind_s]
          show (if nI x ≤ nI (far V t i) then _ else _) = _
          by_cases w : x ≤ far V t i
          · rw [if_pos (nI_le w (by omega))]
            simp only [Nat.min_eq_left w]
          · rw [if_neg (nI_ge (by omega) (by omega))]
            simp only [Nat.min_eq_right (show far V t i ≤ x by omega)]
            rfl
      · rw [if_neg q, if_neg (fun y => q y.1), nI_1]
def lsv (o : Option Nat) : Nat := match o with
  | none => 2000000000
  | some x => x
theorem r_leastFrom_eq (h : Bv σ S V π) {t : Nat} (ht : hs V t) : ∃ S', r_leastFrom S (nI t) = some (nI (lsv (lsF V t 40)), S') ∧ S2 S S' := by
  have e40 : (40 : Int32) = nI 40 := rfl
  have t40 := ht.1
  unfold r_leastFrom
  refine lp 40 (fun F i (a : MS) => r_leastFrom_5 F (nI t) (nI (lsv (lsF V t i))) (nI i) a) (fun i a => S2 S a) (fun r => ∃ S', r = some (nI (lsv (lsF V t 40)), S') ∧ S2 S S') (fun F a j => ?_) (fun F i a hi j => Or.inl ?_) 40 0 FU S (by decide) rfl S2.rfl
  · refine ⟨a, ?_, j⟩
    rw [r_leastFrom_5.eq_2, if_pos (by decide)]
  · have hb := h.s2 j
    show ∃ a', S2 S a' ∧ r_leastFrom_5 (F + 1) (nI t) (nI (lsv (lsF V t i))) (nI i) a = r_leastFrom_5 F (nI t) (nI (lsv (lsF V t (i + 1)))) (nI (i + 1)) a'
    rw [r_leastFrom_5.eq_2, e40, if_neg (nI_ge hi (by decide)), hb.r (show i < 2 ^ 31 by omega), bind_s, ite_bI, lsF.eq_2]
    unfold r_leastFrom_35
    by_cases q : hs V i
    · rw [if_pos q]
      by_cases z : i = t
      · rw [if_pos (by rw [z]), if_neg (fun y => y.2 z), nI_1]
        exact ⟨a, j, rfl⟩
      · rw [if_neg (fun y => z ((nI_eq (by omega) (by omega)).mp y)), if_pos ⟨q, z⟩]
        obtain ⟨S1, g1, g2⟩ := hb.fa ht q
        have bi := far_le h.2.2 t i
        rw [g1, bd2_s]
        cases y : lsF V t i with
        | none =>
          rw [show lsv none = 2000000000 from rfl, r_lesser_eq (by omega) (by omega), bind_s, nI_1, Nat.min_eq_right (by omega)]
          exact ⟨S1, j.trans g2, rfl⟩
        | some x =>
          have bx := lsF_le h.2.2 t y
          rw [show lsv (some x) = x from rfl, r_lesser_eq (by omega) (by omega), bind_s, nI_1]
          exact ⟨S1, j.trans g2, rfl⟩
    · rw [if_neg q, if_neg (fun y => q y.1), nI_1]
      exact ⟨a, j, rfl⟩
theorem cn_su (V : Vt) : cn V = su (fun t => if hs V t then 1 else 0) 40 := by
  have : ∀ m i, fo (fun t n => if hs V t then n + 1 else n) m i (su (fun t => if hs V t then 1 else 0) i) = su (fun t => if hs V t then 1 else 0) (i + m) := by
    intro m
    induction m with
    | zero => intro i; rfl
    | succ m ih =>
      intro i
      show fo _ m (i + 1) (if hs V i then _ else _) = _
      have e : (if hs V i then su (fun t => if hs V t then 1 else 0) i + 1 else su (fun t => if hs V t then 1 else 0) i) = su (fun t => if hs V t then 1 else 0) (i + 1) := by
        show _ = su (fun t => if hs V t then 1 else 0) i + (if hs V i then 1 else 0)
        split <;> rfl
      rw [e, ih (i + 1)]
      congr 1
      omega
  exact (this 40 0)
theorem su_one {f : Nat → Nat} {t : Nat} (h : ∀ i, f i ≤ 1) (h2 : ∀ i, f i ≠ 0 → i = t) : ∀ n, su f n ≤ if t < n then 1 else 0
  | 0 => by unfold su; omega
  | n + 1 => by
    unfold su
    have := su_one h h2 n
    have h3 := h n
    by_cases q : f n = 0
    · rw [q]
      split at this <;> split <;> omega
    · have := h2 n q
      subst this
      rw [if_neg (Nat.lt_irrefl n)] at this
      rw [if_pos (by omega)]
      omega
theorem other {t : Nat} (h2 : 2 ≤ cn V) : ∃ o, hs V o ∧ o ≠ t := by
  refine Classical.byContradiction fun c => ?_
  rw [cn_su] at h2
  have := su_one (f := fun t => if hs V t then 1 else 0) (t := t) (fun i => by show (if hs V i then 1 else 0) ≤ 1; split <;> omega) (fun i hi => by
    refine Classical.byContradiction fun z => c ⟨i, ?_, z⟩
    have hi : (if hs V i then 1 else 0) ≠ 0 := hi
    split at hi
    · assumption
    · exact absurd rfl hi) 40
  split at this <;> omega
theorem lsF_some {t o : Nat} (ho : hs V o) (hne : o ≠ t) : ∀ n, o < n → ∃ x, lsF V t n = some x
  | 0, h => absurd h (Nat.not_lt_zero o)
  | n + 1, h => by
    rw [lsF.eq_2]
    by_cases q : o = n
    · subst q
      rw [if_pos ⟨ho, hne⟩]
      cases lsF V t o with
      | none => exact ⟨_, rfl⟩
      | some x => exact ⟨_, rfl⟩
    · obtain ⟨x, hx⟩ := lsF_some ho hne n (by omega)
      rw [hx]
      split
      · exact ⟨_, rfl⟩
      · exact ⟨_, rfl⟩
def lny (V : Vt) : Nat → Option Nat
  | 0 => none
  | i + 1 => if hs V i then (match lny V i with | none => some i | some c => if lsv (lsF V c 40) < lsv (lsF V i 40) then some i else some c) else lny V i
theorem lny_hs : ∀ {i c : Nat}, lny V i = some c → hs V c
  | 0, c, h => by cases h
  | i + 1, c, h => by
    unfold lny at h
    split at h
    · rename_i q
      split at h
      · cases h; exact q
      · split at h
        · cases h; exact q
        · rename_i d hd _
          cases h
          exact lny_hs hd
    · exact lny_hs h
theorem c_lonely (h : Bv σ S V π) (h2 : 2 ≤ cn V) : kX8_findLonely_19 σ FU 33 (-1) 0 0 = some (o2i (lny V 40)) := by
  have e40 : (40 : Int32) = nI 40 := rfl
  refine lp 40 (fun F i (a : Int32 × Int32) => kX8_findLonely_19 σ F 33 a.1 a.2 (nI i)) (fun i a => a.1 = o2i (lny V i) ∧ ∀ c, lny V i = some c → a.2 = nI (lsv (lsF V c 40))) (fun r => r = some (o2i (lny V 40))) (fun F a j => ?_) (fun F i a hi j => Or.inl ?_) 40 0 FU (-1, 0) (by decide) rfl ⟨rfl, fun c hc => by cases hc⟩
  · show kX8_findLonely_19 σ (F + 1) 33 a.1 a.2 (nI 40) = _
    rw [kX8_findLonely_19.eq_2, if_pos (by decide), j.1]
  · obtain ⟨x1, x2⟩ := a
    obtain ⟨j1, j2⟩ := j
    have j1 : x1 = o2i (lny V i) := j1
    have j2 : ∀ c, lny V i = some c → x2 = nI (lsv (lsF V c 40)) := j2
    show ∃ a', _ ∧ kX8_findLonely_19 σ (F + 1) 33 x1 x2 (nI i) = _
    rw [kX8_findLonely_19.eq_2, e40, if_neg (nI_ge hi (by decide))]
    simp only [h.1.s, h.1.k3, h.1.k33, bind_s, h.c (show i < 2 ^ 31 by omega), ite_bI]
    unfold kX8_findLonely_45 kX8_findLonely_64 kX8_findLonely_69
    by_cases q : hs V i
    · rw [if_pos q, c_leastFrom h q, bind_s]
      obtain ⟨o, ho, hne⟩ := other (V := V) (t := i) h2
      obtain ⟨y, hy⟩ := lsF_some ho hne 40 ho.1
      have by9 := lsF_le h.2.2 i hy
      rw [hy, if_neg (show ¬ o2i (some y) = -1 from fun y => (nI_m1 (by omega)).mp y)]
      cases z : lny V i with
      | none =>
        rw [j1, z, if_pos (show o2i none = -1 from rfl), nI_1]
        refine ⟨(nI i, nI y), ⟨?_, fun c hc => ?_⟩, rfl⟩
        · show nI i = o2i (lny V (i + 1))
          unfold lny
          rw [if_pos q, z]
          rfl
        · unfold lny at hc
          rw [if_pos q, z] at hc
          cases hc
          rw [hy]
          rfl
      | some c =>
        have hc := (lny_hs z).1
        obtain ⟨o2, ho2, hne2⟩ := other (V := V) (t := c) h2
        obtain ⟨y2, hy2⟩ := lsF_some ho2 hne2 40 ho2.1
        have by92 := lsF_le h.2.2 c hy2
        have e1 : lsv (lsF V c 40) = y2 := by rw [hy2]; rfl
        have e2 : lsv (lsF V i 40) = y := by rw [hy]; rfl
        rw [j1, z, if_neg (show ¬ o2i (some c) = -1 from fun y => (nI_m1 (by omega)).mp y), j2 c z, e1]
        show ∃ a', _ ∧ (if nI y ≤ nI y2 then _ else _) = _
        by_cases w : y2 < y
        · rw [if_neg (nI_ge w (by omega)), nI_1]
          refine ⟨(nI i, nI y), ⟨?_, fun d hd => ?_⟩, rfl⟩
          · show nI i = o2i (lny V (i + 1))
            unfold lny
            rw [if_pos q, z]
            simp only [e1, e2, if_pos w]
            rfl
          · unfold lny at hd
            rw [if_pos q, z] at hd
            simp only [e1, e2, if_pos w] at hd
            cases hd
            show nI y = _
            rw [e2]
        · rw [if_pos (nI_le (by omega) (by omega)), nI_1]
          refine ⟨(o2i (some c), nI y2), ⟨?_, fun d hd => ?_⟩, rfl⟩
          · show o2i (some c) = o2i (lny V (i + 1))
            unfold lny
            rw [if_pos q, z]
            simp only [e1, e2, if_neg w]
          · unfold lny at hd
            rw [if_pos q, z] at hd
            simp only [e1, e2, if_neg w] at hd
            cases hd
            show nI y2 = _
            rw [e1]
    · rw [if_neg q, if_pos rfl, nI_1]
      refine ⟨(x1, x2), ⟨?_, fun c hc => ?_⟩, rfl⟩
      · show x1 = o2i (lny V (i + 1))
        unfold lny
        rw [if_neg q]
        exact j1
      · unfold lny at hc
        rw [if_neg q] at hc
        exact j2 c hc
theorem r_lonely_14_eq (h : Bv σ S V π) : ∃ S', r_lonely_14 FU (-1) 0 S = some (o2i (lny V 40), S') ∧ S2 S S' := by
  have e40 : (40 : Int32) = nI 40 := rfl
  refine lp 40 (fun F i (a : MS) => r_lonely_14 F (o2i (lny V i)) (nI i) a) (fun i a => S2 S a) (fun r => ∃ S', r = some (o2i (lny V 40), S') ∧ S2 S S') (fun F a j => ?_) (fun F i a hi j => Or.inl ?_) 40 0 FU S (by decide) rfl S2.rfl
  · refine ⟨a, ?_, j⟩
    rw [r_lonely_14.eq_2, if_pos (by decide)]
  · have hb := h.s2 j
    show ∃ a', S2 S a' ∧ r_lonely_14 (F + 1) (o2i (lny V i)) (nI i) a = r_lonely_14 F (o2i (lny V (i + 1))) (nI (i + 1)) a'
    rw [r_lonely_14.eq_2, e40, if_neg (nI_ge hi (by decide)), hb.r (show i < 2 ^ 31 by omega), bind_s, ite_bI]
    unfold r_lonely_46 r_lonely_48
    rw [lny.eq_2]
    have bnd : ∀ c, lsv (lsF V c 40) < 2 ^ 31 := fun c => by
      cases y : lsF V c 40 with
      | none => decide
      | some x => have := lsF_le h.2.2 c y; show x < _; omega
    by_cases q : hs V i
    · rw [if_pos q, if_pos q]
      cases z : lny V i with
      | none =>
        rw [if_pos (show o2i none = -1 from rfl), nI_1]
        exact ⟨a, j, rfl⟩
      | some c =>
        have hc := lny_hs z
        have c40 := hc.1
        rw [if_neg (show ¬ o2i (some c) = -1 from fun y => (nI_m1 (by omega)).mp y)]
        obtain ⟨S1, g1, g2⟩ := r_leastFrom_eq hb q
        obtain ⟨S3, g3, g4⟩ := r_leastFrom_eq (hb.s2 g2) hc
        rw [g1, bd2_s, show o2i (some c) = nI c from rfl, g3, bd2_s]
        by_cases y : lsv (lsF V c 40) < lsv (lsF V i 40)
        · rw [if_neg (nI_ge y (bnd i)), nI_1]
          simp only [if_pos y]
          exact ⟨S3, (j.trans g2).trans g4, rfl⟩
        · rw [if_pos (nI_le (by omega) (bnd c)), nI_1]
          simp only [if_neg y]
          exact ⟨S3, (j.trans g2).trans g4, rfl⟩
    · rw [if_neg q, if_neg q, nI_1]
      exact ⟨a, j, rfl⟩
end B
