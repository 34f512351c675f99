section BITS
/-- a whole significand of 24 digits -/
def n24 (c : Nat) : Prop := 8388608 ≤ c ∧ c < 16777216
theorem k_tails : FP.Core.b32.tails = 8388608 := by decide
theorem k_exps : FP.Core.b32.exps = 256 := by decide
theorem k_qmin : FP.Core.b32.qmin = -149 := by decide
theorem k_qmax : FP.Core.b32.qmax = 104 := by decide
theorem k_p : FP.Core.b32.p = 24 := rfl
theorem fb_dec {E t : Nat} (h1 : 0 < E) (h2 : E < 255) (ht : t < 8388608) : FP.Core.decode FP.Core.b32 (E * 8388608 + t) = .fin false (8388608 + t) ((E : Int) - 150) := by
  have eE : FP.Core.fieldE FP.Core.b32 (E * 8388608 + t) = E := by unfold FP.Core.fieldE; rw [k_tails, k_exps]; omega
  have eT : FP.Core.fieldT FP.Core.b32 (E * 8388608 + t) = t := by unfold FP.Core.fieldT; rw [k_tails]; omega
  have eS : FP.Core.fieldS FP.Core.b32 (E * 8388608 + t) = false := by
    unfold FP.Core.fieldS; rw [k_tails, k_exps]
    have : (E * 8388608 + t) / 8388608 / 256 % 2 = 0 := by omega
    rw [this]; rfl
  unfold FP.Core.decode
  rw [eE, eT, eS, if_neg (by rw [k_exps]; omega), if_neg (by omega), k_tails, k_qmin]
  congr 1; omega
theorem fb_set {c : Nat} {q : Int} (hc : c < 16777216) (hq : q ≤ 104) : FP.Core.settle FP.Core.b32 false c q = .fin false c q := by
  unfold FP.Core.settle FP.Core.bound
  rw [if_pos (show c < 2 ^ FP.Core.b32.p from hc), if_pos (by rw [k_qmax]; exact hq)]
theorem fb_enc {c : Nat} {q : Int} (hc : n24 c) : FP.Core.encode FP.Core.b32 (.fin false c q) = ((q + 149).toNat + 1) * 8388608 + (c - 8388608) := by
  have := hc.1
  show (if c < FP.Core.b32.tails then _ else _) = _
  rw [if_neg (by rw [k_tails]; omega)]
  unfold FP.Core.assemble
  rw [k_tails, k_qmin, show q - (-149) = q + 149 by omega]
  show (0 * FP.Core.b32.exps + _) * 8388608 + _ = _
  rw [Nat.zero_mul, Nat.zero_add]
theorem lg2 {c k : Nat} (h1 : 2 ^ k ≤ c) (h2 : c < 2 ^ (k + 1)) : c.log2 = k := by
  have p := Nat.two_pow_pos k
  have a := (Nat.le_log2 (n := c) (k := k) (by omega)).mpr h1
  have b := (Nat.log2_lt (n := c) (k := k + 1) (by omega)).mpr h2
  omega
theorem lgn {c : Nat} (h : n24 c) : c.log2 = 23 := lg2 h.1 h.2
/-- a number that has 24 digits and zeros behind is kept -/
theorem fb_round {c j : Nat} {e : Int} (h : n24 c) (h1 : -149 ≤ e + j) (h2 : e + j ≤ 104) : FP.Core.roundRatio FP.Core.b32 false (c * 2 ^ j) 1 e = .fin false c (e + j) := by
  have p := Nat.two_pow_pos j
  have c1 := h.1
  have n0 : c * 2 ^ j ≠ 0 := Nat.ne_of_gt (Nat.mul_pos (by omega) p)
  have l : (c * 2 ^ j).log2 = 23 + j := lg2 (by rw [Nat.pow_add]; exact Nat.mul_le_mul_right _ h.1) (by rw [show 23 + j + 1 = 24 + j by omega, Nat.pow_add]; exact (Nat.mul_lt_mul_right p).mpr h.2)
  have ld : FP.Core.leading (c * 2 ^ j) 1 = (23 + j : Nat) := by
    unfold FP.Core.leading
    rw [l, show Nat.log2 1 = 0 from by decide]
    show (if 1 * 2 ^ (((23 + j : Nat) : Int) - ((0 : Nat) : Int)).toNat ≤ c * 2 ^ j * 2 ^ (-(((23 + j : Nat) : Int) - ((0 : Nat) : Int))).toNat then _ else _) = _
    rw [show (((23 + j : Nat) : Int) - ((0 : Nat) : Int)).toNat = 23 + j by omega, show (-(((23 + j : Nat) : Int) - ((0 : Nat) : Int))).toNat = 0 by omega, if_pos (by rw [Nat.one_mul, Nat.pow_zero, Nat.mul_one, Nat.pow_add]; exact Nat.mul_le_mul_right _ h.1)]
    omega
  unfold FP.Core.roundRatio FP.Core.roundAt FP.Core.quantum
  rw [if_neg n0, ld, k_qmin, k_p, show max (-149 : Int) (((23 + j : Nat) : Int) + e - (((24 : Nat) : Int) - 1)) = e + j by omega]
  unfold FP.Core.unitsNum FP.Core.unitsDen
  rw [show (e - (e + (j : Int))).toNat = 0 by omega, show (e + (j : Int) - e).toNat = j by omega, Nat.pow_zero, Nat.mul_one, Nat.one_mul]
  unfold FP.Core.nearest
  rw [Nat.mul_mod_left, if_pos (by omega), Nat.mul_div_cancel _ p, fb_set h.2 h2]
/-- a number of fewer digits is kept -/
theorem fb_small {t k : Nat} {e : Int} (h : t.log2 = k) (h0 : t ≠ 0) (hk : k ≤ 23) (h1 : -149 ≤ e + k - 23) (h2 : e + k - 23 ≤ 104) : FP.Core.roundRatio FP.Core.b32 false t 1 e = .fin false (t * 2 ^ (23 - k)) (e + k - 23) ∧ n24 (t * 2 ^ (23 - k)) := by
  have a : 2 ^ k ≤ t := by rw [← h]; exact Nat.log2_self_le h0
  have b : t < 2 ^ (k + 1) := by rw [← h]; exact Nat.lt_log2_self
  have nc : n24 (t * 2 ^ (23 - k)) := by
    have p := Nat.two_pow_pos (23 - k)
    constructor
    · have := Nat.mul_le_mul_right (2 ^ (23 - k)) a
      rw [← Nat.pow_add, show k + (23 - k) = 23 by omega] at this
      exact this
    · have := (Nat.mul_lt_mul_right p).mpr b
      rw [← Nat.pow_add, show k + 1 + (23 - k) = 24 by omega] at this
      exact this
  refine ⟨?_, nc⟩
  have ld : FP.Core.leading t 1 = (k : Nat) := by
    unfold FP.Core.leading
    rw [h, show Nat.log2 1 = 0 from by decide]
    show (if 1 * 2 ^ (((k : Nat) : Int) - ((0 : Nat) : Int)).toNat ≤ t * 2 ^ (-(((k : Nat) : Int) - ((0 : Nat) : Int))).toNat then _ else _) = _
    rw [show (((k : Nat) : Int) - ((0 : Nat) : Int)).toNat = k by omega, show (-(((k : Nat) : Int) - ((0 : Nat) : Int))).toNat = 0 by omega, if_pos (by rw [Nat.one_mul, Nat.pow_zero, Nat.mul_one]; exact a)]
    omega
  unfold FP.Core.roundRatio FP.Core.roundAt FP.Core.quantum
  rw [if_neg h0, ld, k_qmin, k_p, show max (-149 : Int) (((k : Nat) : Int) + e - (((24 : Nat) : Int) - 1)) = e + k - 23 by omega]
  unfold FP.Core.unitsNum FP.Core.unitsDen
  rw [show (e - (e + (k : Int) - 23)).toNat = 23 - k by omega, show (e + (k : Int) - 23 - e).toNat = 0 by omega, Nat.pow_zero, Nat.one_mul]
  unfold FP.Core.nearest
  rw [Nat.mod_one, if_pos (by omega), Nat.div_one, fb_set nc.2 h2]
/-- a quotient of two numbers of 24 digits -/
theorem fb_quot {c d : Nat} {e : Int} (hc : n24 c) (hd : n24 d) (h1 : -120 ≤ e) (h2 : e ≤ 120) : ∃ x q, FP.Core.roundRatio FP.Core.b32 false c d e = .fin false x q ∧ n24 x ∧ -145 ≤ q ∧ q ≤ 98 := by
  have c1 := hc.1
  have c2 := hc.2
  have d1 := hd.1
  have d2 := hd.2
  have key : ∀ (m : Nat) (q : Int), 8388608 * d ≤ m → m < 16777216 * d → -144 ≤ q → q ≤ 97 → ∃ x q', FP.Core.settle FP.Core.b32 false (FP.Core.nearest m d) q = .fin false x q' ∧ n24 x ∧ -145 ≤ q' ∧ q' ≤ 98 := by
    intro m q m1 m2 q1 q2
    have f1 : 8388608 ≤ m / d := (Nat.le_div_iff_mul_le (by omega)).mpr m1
    have f2 : m / d < 16777216 := (Nat.div_lt_iff_lt_mul (by omega)).mpr m2
    have n1 : 8388608 ≤ FP.Core.nearest m d ∧ FP.Core.nearest m d ≤ 16777216 := by
      unfold FP.Core.nearest
      split
      · omega
      · split <;> omega
    by_cases z : FP.Core.nearest m d < 16777216
    · exact ⟨_, q, fb_set z (by omega), ⟨n1.1, z⟩, by omega, by omega⟩
    · refine ⟨8388608, q + 1, ?_, ⟨by omega, by omega⟩, by omega, by omega⟩
      unfold FP.Core.settle FP.Core.bound
      rw [if_neg (show ¬ FP.Core.nearest m d < 2 ^ FP.Core.b32.p from z), k_tails, if_pos (by rw [k_qmax]; omega)]
  have ld : FP.Core.leading c d = if d ≤ c then 0 else -1 := by
    unfold FP.Core.leading
    rw [lgn hc, lgn hd]
    by_cases z : d ≤ c
    · rw [if_pos z]; exact if_pos (show d * 1 ≤ c * 1 by omega)
    · rw [if_neg z]; exact if_neg (show ¬ d * 1 ≤ c * 1 by omega)
  unfold FP.Core.roundRatio FP.Core.roundAt FP.Core.quantum
  rw [if_neg (by omega), ld, k_qmin, k_p]
  by_cases z : d ≤ c
  · rw [if_pos z, show max (-149 : Int) (0 + e - (((24 : Nat) : Int) - 1)) = e - 23 by omega]
    unfold FP.Core.unitsNum FP.Core.unitsDen
    rw [show (e - (e - 23)).toNat = 23 by omega, show (e - 23 - e).toNat = 0 by omega, Nat.pow_zero, Nat.mul_one]
    exact key _ _ (by show _ ≤ c * 8388608; omega) (by show c * 8388608 < _; omega) (by omega) (by omega)
  · rw [if_neg z, show max (-149 : Int) (-1 + e - (((24 : Nat) : Int) - 1)) = e - 24 by omega]
    unfold FP.Core.unitsNum FP.Core.unitsDen
    rw [show (e - (e - 24)).toNat = 24 by omega, show (e - 24 - e).toNat = 0 by omega, Nat.pow_zero, Nat.mul_one]
    exact key _ _ (by show _ ≤ c * 16777216; omega) (by show c * 16777216 < _; omega) (by omega) (by omega)
/-- the bits of a positive float -/
def fU (E t : Nat) : UInt32 := UInt32.ofNat (E * 8388608 + t)
theorem fU_n {E t : Nat} (h : E < 256) (ht : t < 8388608) : (fU E t).toNat = E * 8388608 + t := by
  unfold fU
  rw [UInt32.toNat_ofNat', Nat.mod_eq_of_lt (by omega)]
theorem fU_op {E t : Nat} (h : E < 255) (ht : t < 8388608) : fop (fU E t) = some (fU E t) := by
  unfold fop
  rw [if_pos]
  rw [UInt32.le_iff_toNat_le, UInt32.toNat_and, fU_n (by omega) ht]
  have : (2147483647 : UInt32).toNat = 2 ^ 31 - 1 := by decide
  rw [this, Nat.and_two_pow_sub_one_eq_mod]
  have : (2139095040 : UInt32).toNat = 2139095040 := by decide
  rw [this]
  omega
theorem c2_n : FP.fconst2.toNat = 128 * 8388608 + 0 := by decide
theorem c1_n : FP.fconst1.toNat = 127 * 8388608 + 0 := by decide
theorem c0_n : FP.fconst0.toNat = 0 := by decide
theorem c8_n : (1258291200 : UInt32).toNat = 150 * 8388608 + 0 := by decide
theorem d0 : FP.Core.decode FP.Core.b32 0 = .fin false 0 (-149) := by decide
theorem f_half {E t : Nat} (h1 : 1 < E) (h2 : E < 255) (ht : t < 8388608) : FP.fdiv (fU E t) FP.fconst2 = fU (E - 1) t := by
  show UInt32.ofNat (FP.Core.div FP.Core.b32 (fU E t).toNat FP.fconst2.toNat) = _
  unfold FP.Core.div
  rw [fU_n (by omega) ht, c2_n, fb_dec (by omega) h2 ht, fb_dec (by omega) (by omega) (by omega)]
  show UInt32.ofNat (FP.Core.encode FP.Core.b32 (FP.Core.roundRatio FP.Core.b32 false (8388608 + t) 8388608 ((E : Int) - 150 - (((128 : Nat) : Int) - 150)))) = _
  have nc : n24 (8388608 + t) := ⟨by omega, by omega⟩
  have ld : FP.Core.leading (8388608 + t) 8388608 = 0 := by
    unfold FP.Core.leading
    rw [lgn nc, show Nat.log2 8388608 = 23 from lgn ⟨by omega, by omega⟩]
    exact if_pos (show 8388608 * 1 ≤ (8388608 + t) * 1 by omega)
  have : FP.Core.roundRatio FP.Core.b32 false (8388608 + t) 8388608 ((E : Int) - 150 - (((128 : Nat) : Int) - 150)) = .fin false (8388608 + t) ((E : Int) - 151) := by
    unfold FP.Core.roundRatio FP.Core.roundAt FP.Core.quantum
    rw [if_neg (by omega), ld, k_qmin, k_p, show max (-149 : Int) (0 + ((E : Int) - 150 - (((128 : Nat) : Int) - 150)) - (((24 : Nat) : Int) - 1)) = (E : Int) - 151 by omega]
    unfold FP.Core.unitsNum FP.Core.unitsDen
    rw [show ((E : Int) - 150 - (((128 : Nat) : Int) - 150) - ((E : Int) - 151)).toNat = 23 by omega, show ((E : Int) - 151 - ((E : Int) - 150 - (((128 : Nat) : Int) - 150))).toNat = 0 by omega]
    unfold FP.Core.nearest
    rw [show (8388608 + t) * 2 ^ 23 % (8388608 * 2 ^ 0) = 0 by omega, show (8388608 + t) * 2 ^ 23 / (8388608 * 2 ^ 0) = 8388608 + t by omega, if_pos (by omega), fb_set nc.2 (by omega)]
  rw [this, fb_enc nc]
  unfold fU
  exact congrArg UInt32.ofNat (by omega)
theorem f_dbl {E t F : Nat} {y : UInt32} (hy : y.toNat = F * 8388608 + 0) (f1 : 0 < F) (f2 : F < 255) (h1 : 0 < E) (h2 : E < 255) (h3 : 127 < E + F) (h4 : E + F < 382) (ht : t < 8388608) : FP.fmul (fU E t) y = fU (E + F - 127) t := by
  show UInt32.ofNat (FP.Core.mul FP.Core.b32 (fU E t).toNat y.toNat) = _
  unfold FP.Core.mul
  rw [fU_n (by omega) ht, hy, fb_dec (by omega) h2 ht, fb_dec f1 f2 (by omega)]
  show UInt32.ofNat (FP.Core.encode FP.Core.b32 (FP.Core.roundRatio FP.Core.b32 false ((8388608 + t) * 2 ^ 23) 1 ((E : Int) - 150 + ((F : Int) - 150)))) = _
  have nc : n24 (8388608 + t) := ⟨by omega, by omega⟩
  rw [fb_round nc (by omega) (by omega), fb_enc nc]
  unfold fU
  exact congrArg UInt32.ofNat (by omega)
theorem f_sub {t : Nat} (ht : t < 8388608) (h0 : t ≠ 0) : ∃ k, k ≤ 22 ∧ n24 (t * 2 ^ (23 - k)) ∧ FP.fsub (fU 127 t) FP.fconst1 = fU (k + 104) (t * 2 ^ (23 - k) - 8388608) := by
  have kl : t.log2 < 23 := (Nat.log2_lt h0).mpr ht
  obtain ⟨r1, r2⟩ := fb_small (t := t) (k := t.log2) (e := -23) rfl h0 (by omega) (by omega) (by omega)
  refine ⟨t.log2, by omega, r2, ?_⟩
  show UInt32.ofNat (FP.Core.sub FP.Core.b32 (fU 127 t).toNat FP.fconst1.toNat) = _
  unfold FP.Core.sub
  rw [fU_n (by omega) ht, c1_n, fb_dec (by omega) (by omega) ht, fb_dec (by omega) (by omega) (by omega)]
  have x : FP.Core.exactSum (.fin false (8388608 + t) (((127 : Nat) : Int) - 150)) (FP.Core.negate (.fin false (8388608 + 0) (((127 : Nat) : Int) - 150))) = .fin false t (-23) := by
    have su : FP.Core.sumUnits false (8388608 + t) (-23) true 8388608 (-23) (-23) = (t : Int) := by
      unfold FP.Core.sumUnits FP.Core.inUnits FP.Core.signed
      rw [if_neg (by decide), if_pos rfl, show ((-23 : Int) - -23).toNat = 0 from rfl, Nat.pow_zero]
      omega
    show FP.Core.Datum.fin (FP.Core.sumSign false true (FP.Core.sumUnits false (8388608 + t) (-23) true 8388608 (-23) (-23))) (FP.Core.sumUnits false (8388608 + t) (-23) true 8388608 (-23) (-23)).natAbs (-23) = _
    rw [su]
    unfold FP.Core.sumSign
    rw [if_neg (by omega), Int.natAbs_natCast, decide_eq_false (by omega)]
  rw [x]
  show UInt32.ofNat (FP.Core.encode FP.Core.b32 (FP.Core.roundRatio FP.Core.b32 false t 1 (-23))) = _
  rw [r1, fb_enc r2]
  unfold fU
  exact congrArg UInt32.ofNat (by omega)
theorem f_int {k t : Nat} (hk : k ≤ 22) (h : n24 (t * 2 ^ (23 - k))) (ht : t < 8388608) : FP.f2i (fU (k + 127) (t * 2 ^ (23 - k) - 8388608)) = nI t := by
  have h1 := h.1
  have h2 := h.2
  show FP.Core.toI (FP.Core.decode FP.Core.b32 (fU (k + 127) (t * 2 ^ (23 - k) - 8388608)).toNat) = _
  rw [fU_n (by omega) (by omega), fb_dec (by omega) (by omega) (by omega)]
  unfold FP.Core.toI
  have : FP.Core.toInt (-2 ^ 31) (2 ^ 31 - 1) (.fin false (8388608 + (t * 2 ^ (23 - k) - 8388608)) (((k + 127 : Nat) : Int) - 150)) = (t : Int) := by
    show max (-2 ^ 31 : Int) (min (2 ^ 31 - 1) (FP.Core.truncate false (8388608 + (t * 2 ^ (23 - k) - 8388608)) (((k + 127 : Nat) : Int) - 150))) = _
    have tr : FP.Core.truncate false (8388608 + (t * 2 ^ (23 - k) - 8388608)) (((k + 127 : Nat) : Int) - 150) = (t : Int) := by
      unfold FP.Core.truncate FP.Core.signed
      rw [if_neg (by decide), show 8388608 + (t * 2 ^ (23 - k) - 8388608) = t * 2 ^ (23 - k) by omega, show (((k + 127 : Nat) : Int) - 150).toNat = 0 by omega, show (-(((k + 127 : Nat) : Int) - 150)).toNat = 23 - k by omega, Nat.pow_zero, Nat.mul_one, Nat.mul_div_cancel _ (Nat.two_pow_pos _)]
    rw [tr]
    omega
  rw [this]
  first | rfl | exact Int32.ofInt_eq_ofNat | exact (Int32.ofInt_eq_ofNat t)
/-- the order of two positive floats -/
theorem f_cmp {E t F : Nat} {y : UInt32} (hy : y.toNat = F * 8388608 + 0) (f1 : 0 < F) (f2 : F < 255) (h1 : 0 < E) (h2 : E < 255) (ht : t < 8388608) : (E < F → FP.fcmp (fU E t) y = some .lt) ∧ (F ≤ E → FP.fcmp (fU E t) y = some .gt ∨ FP.fcmp (fU E t) y = some .eq) := by
  have e : FP.fcmp (fU E t) y = some (compare (((8388608 + t) * 2 ^ ((E : Int) - 150 - min ((E : Int) - 150) ((F : Int) - 150)).toNat : Nat) : Int) (((8388608 + 0) * 2 ^ ((F : Int) - 150 - min ((E : Int) - 150) ((F : Int) - 150)).toNat : Nat) : Int)) := by
    show FP.Core.order (FP.Core.decode FP.Core.b32 (fU E t).toNat) (FP.Core.decode FP.Core.b32 y.toNat) = _
    rw [fU_n (by omega) ht, hy, fb_dec h1 h2 ht, fb_dec f1 f2 (by omega)]
    rfl
  rw [e]
  constructor
  · intro l
    rw [show ((E : Int) - 150 - min ((E : Int) - 150) ((F : Int) - 150)).toNat = 0 by omega, show ((F : Int) - 150 - min ((E : Int) - 150) ((F : Int) - 150)).toNat = F - E by omega]
    have p : 2 ^ 1 ≤ 2 ^ (F - E) := Nat.pow_le_pow_right (by omega) (by omega)
    have := Nat.mul_le_mul_left 8388608 p
    congr 1
    rw [Int.compare_eq_lt]
    have : (8388608 + t) * 2 ^ 0 < (8388608 + 0) * 2 ^ (F - E) := by omega
    exact Int.ofNat_lt.mpr this
  · intro l
    rw [show ((E : Int) - 150 - min ((E : Int) - 150) ((F : Int) - 150)).toNat = E - F by omega, show ((F : Int) - 150 - min ((E : Int) - 150) ((F : Int) - 150)).toNat = 0 by omega]
    have p : 1 ≤ 2 ^ (E - F) := Nat.one_le_two_pow
    have := Nat.mul_le_mul_left (8388608 + t) p
    have le : (8388608 + 0) * 2 ^ 0 ≤ (8388608 + t) * 2 ^ (E - F) := by omega
    rcases Nat.lt_or_eq_of_le le with g | g
    · exact Or.inl (congrArg some (Int.compare_eq_gt.mpr (Int.ofNat_lt.mpr g)))
    · exact Or.inr (congrArg some (Int.compare_eq_eq.mpr (congrArg Int.ofNat g.symm)))
variable {σ : Hp}
theorem f_pos {E t : Nat} (h1 : 0 < E) (h2 : E < 255) (ht : t < 8388608) : FP.fcmp (fU E t) FP.fconst0 = some .gt := by
  show FP.Core.order (FP.Core.decode FP.Core.b32 (fU E t).toNat) (FP.Core.decode FP.Core.b32 FP.fconst0.toNat) = _
  rw [fU_n (by omega) ht, c0_n, fb_dec h1 h2 ht, d0]
  refine congrArg some (Int.compare_eq_gt.mpr (Int.ofNat_lt.mpr ?_))
  show 0 * 2 ^ _ < (8388608 + t) * 2 ^ _
  rw [Nat.zero_mul]
  exact Nat.mul_pos (by omega) (Nat.two_pow_pos _)
theorem f_self {E t : Nat} (h1 : 0 < E) (h2 : E < 255) (ht : t < 8388608) : FP.fcmp (fU E t) (fU E t) = some .eq := by
  show FP.Core.order (FP.Core.decode FP.Core.b32 (fU E t).toNat) (FP.Core.decode FP.Core.b32 (fU E t).toNat) = _
  rw [fU_n (by omega) ht, fb_dec h1 h2 ht]
  exact congrArg some (Int.compare_eq_eq.mpr rfl)
theorem sh23 : ∀ E : Fin 256, nI E.val <<< (23 &&& 31 : Int32) = nI (E.val * 8388608) := by decide +kernel
theorem b_67 {E t : Nat} (h : E < 256) (ht : t < 8388608) : kX11_bitsOf_67 σ (fU 127 t) (nI E) = some (nI (E * 8388608 + t)) := by
  unfold kX11_bitsOf_67
  have sh : nI E <<< (23 &&& 31 : Int32) = nI (E * 8388608) := sh23 ⟨E, h⟩
  by_cases z : t = 0
  · subst z
    rw [show FP.fsub (fU 127 0) FP.fconst1 = 0 by decide +kernel, show fop 0 = some 0 by decide +kernel, bind_s, show FP.fmul 0 1258291200 = 0 by decide +kernel, show fop 0 = some 0 by decide +kernel, bind_s, show FP.f2i 0 = 0 by decide +kernel, sh, Int32.add_zero, Nat.add_zero]
  · obtain ⟨k, k1, k2, k3⟩ := f_sub ht z
    have a := k2.1
    have b := k2.2
    rw [k3, fU_op (by omega) (by omega), bind_s, f_dbl c8_n (by omega) (by omega) (by omega) (by omega) (by omega) (by omega) (by omega), show k + 104 + 150 - 127 = k + 127 by omega, fU_op (by omega) (by omega), bind_s, f_int k1 k2 ht, sh, nI_add]
theorem b_42 {t E0 : Nat} (ht : t < 8388608) (h0 : E0 < 256) : ∀ (m F n : Nat), m < F → n + m ≤ 126 → kX11_bitsOf_42 σ F (fU (127 - m) t) (nI (E0 + m)) (nI n) = some (nI (E0 * 8388608 + t))
  | m, 0, n, hF, hn => absurd hF (Nat.not_lt_zero m)
  | 0, F + 1, n, hF, hn => by
    rw [kX11_bitsOf_42.eq_2]
    by_cases z : (126 : Int32) ≤ nI n
    · rw [if_pos z]; exact b_67 h0 ht
    · rw [if_neg z, if_pos]
      · exact b_67 h0 ht
      · rcases (f_cmp (E := 127 - 0) (t := t) c1_n (by omega) (by omega) (by omega) (by omega) ht).2 (by omega) with g | g <;> rw [g] <;> decide
  | m + 1, F + 1, n, hF, hn => by
    rw [kX11_bitsOf_42.eq_2, show (126 : Int32) = nI 126 from rfl, if_neg (nI_ge (by omega) (by omega)), if_neg (by rw [(f_cmp (E := 127 - (m + 1)) (t := t) c1_n (by omega) (by omega) (by omega) (by omega) ht).1 (by omega)]; decide), f_dbl c2_n (by omega) (by omega) (by omega) (by omega) (by omega) (by omega) ht, show 127 - (m + 1) + 128 - 127 = 127 - m by omega, fU_op (by omega) ht, bind_s, nI_dec (by omega), show E0 + (m + 1) - 1 = E0 + m by omega, nI_1]
    exact b_42 ht h0 m F (n + 1) (by omega) (by omega)
theorem b_15 {t E0 : Nat} (ht : t < 8388608) (h0 : E0 < 256) : ∀ (m F n : Nat), m < F → n + m ≤ 127 → m ≤ E0 → kX11_bitsOf_15 σ F (fU (127 + m) t) (nI (E0 - m)) (nI n) = some (nI (E0 * 8388608 + t))
  | m, 0, n, hF, hn, _ => absurd hF (Nat.not_lt_zero m)
  | 0, F + 1, n, hF, hn, _ => by
    have e : kX11_bitsOf_40 σ (fU (127 + 0) t) (nI (E0 - 0)) = some (nI (E0 * 8388608 + t)) := b_42 (σ := σ) ht h0 0 FU 0 (FU_gt (by omega)) (by omega)
    rw [kX11_bitsOf_15.eq_2]
    by_cases z : (127 : Int32) ≤ nI n
    · rw [if_pos z]; exact e
    · rw [if_neg z, if_pos]
      · exact e
      · rw [(f_cmp (E := 127 + 0) (t := t) c2_n (by omega) (by omega) (by omega) (by omega) ht).1 (by omega)]; decide
  | m + 1, F + 1, n, hF, hn, hE => by
    rw [kX11_bitsOf_15.eq_2, show (127 : Int32) = nI 127 from rfl, if_neg (nI_ge (by omega) (by omega)), if_neg (by rcases (f_cmp (E := 127 + (m + 1)) (t := t) c2_n (by omega) (by omega) (by omega) (by omega) ht).2 (by omega) with g | g <;> rw [g] <;> decide), f_half (by omega) (by omega) ht, show 127 + (m + 1) - 1 = 127 + m by omega, fU_op (by omega) ht, bind_s, nI_1, nI_1, show E0 - (m + 1) + 1 = E0 - m by omega]
    exact b_15 ht h0 m F (n + 1) (by omega) (by omega) (by omega)
theorem c_bits {E t : Nat} (h1 : 0 < E) (h2 : E < 255) (ht : t < 8388608) : kX11_bitsOf σ (fU E t) = some (nI (E * 8388608 + t)) := by
  unfold kX11_bitsOf
  rw [if_pos (by rw [f_pos h1 h2 ht]; decide)]
  by_cases z : 127 ≤ E
  · have := b_15 (σ := σ) (t := t) (E0 := E) ht (by omega) (E - 127) FU 0 (FU_gt (by omega)) (by omega) (by omega)
    rwa [show 127 + (E - 127) = E by omega, show E - (E - 127) = 127 by omega] at this
  · have := b_42 (σ := σ) (t := t) (E0 := E) ht (by omega) (127 - E) FU 0 (FU_gt (by omega)) (by omega)
    rw [show 127 - (127 - E) = E by omega, show E + (127 - E) = 127 by omega] at this
    rw [show FU = 999999 + 1 from rfl, kX11_bitsOf_15.eq_2, if_neg (by decide), if_pos (by rw [(f_cmp (E := E) (t := t) c2_n (by omega) (by omega) h1 h2 ht).1 (by omega)]; decide)]
    exact this
theorem r_bits_eq {E t : Nat} (h1 : 0 < E) (h2 : E < 255) (ht : t < 8388608) : r_bits (fU E t) = some (nI (E * 8388608 + t)) := by
  unfold r_bits r_isNaN
  rw [if_pos (by rw [f_self h1 h2 ht]; rfl), show zb 0 = some 0 by decide, bind_s, if_pos rfl]
  rfl
theorem f_i2f {s : Nat} (h0 : s ≠ 0) (h1 : s < 16777216) : ∃ k, k ≤ 23 ∧ n24 (s * 2 ^ (23 - k)) ∧ FP.i2f (nI s) = fU (k + 127) (s * 2 ^ (23 - k) - 8388608) := by
  have kl : s.log2 < 24 := (Nat.log2_lt h0).mpr h1
  obtain ⟨r1, r2⟩ := fb_small (t := s) (k := s.log2) (e := 0) rfl h0 (by omega) (by omega) (by omega)
  refine ⟨s.log2, by omega, r2, ?_⟩
  show UInt32.ofNat (FP.Core.encode FP.Core.b32 (FP.Core.round FP.Core.b32 (FP.Core.ofInt (nI s).toInt))) = _
  rw [show (nI s).toInt = (s : Int) from Int32.toInt_ofNat_of_lt (by omega)]
  unfold FP.Core.ofInt
  rw [decide_eq_false (by omega), Int.natAbs_natCast]
  show UInt32.ofNat (FP.Core.encode FP.Core.b32 (FP.Core.roundRatio FP.Core.b32 false s 1 0)) = _
  rw [r1, fb_enc r2]
  unfold fU
  exact congrArg UInt32.ofNat (by omega)
theorem fb_q {c d : Nat} {q r : Int} (h : d ≠ 0) : FP.Core.quotient FP.Core.b32 (.fin false c q) (.fin false d r) = FP.Core.roundRatio FP.Core.b32 false c d (q - r) := by
  show (if d = 0 then _ else FP.Core.roundRatio FP.Core.b32 false c d (q - r)) = _
  rw [if_neg h]
theorem fb_0 {d : Nat} {e : Int} : FP.Core.roundRatio FP.Core.b32 false 0 d e = .fin false 0 (-149) := by
  unfold FP.Core.roundRatio
  rw [if_pos rfl, k_qmin]
/-- the mean's bits: the class makes them by hand, the reference asks for them -/
theorem mean_bits {s n : Nat} (hs : s < 16777216) (hn : n ≠ 0) (hn2 : n < 16777216) : ∃ v z, fop (FP.fdiv (FP.i2f (nI s)) (FP.i2f (nI n))) = some v ∧ kX11_bitsOf σ v = some z ∧ r_bits v = some z := by
  obtain ⟨j, j1, j2, j3⟩ := f_i2f hn hn2
  have j4 := j2.1
  have j5 := j2.2
  by_cases z : s = 0
  · subst z
    refine ⟨0, 0, ?_, by unfold kX11_bitsOf; rw [if_neg (by decide +kernel)], by decide +kernel⟩
    have : FP.fdiv (FP.i2f (nI 0)) (FP.i2f (nI n)) = 0 := by
      rw [j3, show FP.i2f (nI 0) = 0 by decide +kernel]
      show UInt32.ofNat (FP.Core.encode FP.Core.b32 (FP.Core.quotient FP.Core.b32 (FP.Core.decode FP.Core.b32 (0 : UInt32).toNat) (FP.Core.decode FP.Core.b32 (fU (j + 127) (n * 2 ^ (23 - j) - 8388608)).toNat))) = _
      rw [fU_n (by omega) (by omega), fb_dec (by omega) (by omega) (by omega), show (0 : UInt32).toNat = 0 from rfl, d0]
      rw [fb_q (by omega), fb_0]
      decide
    rw [this]
    decide +kernel
  · obtain ⟨k, k1, k2, k3⟩ := f_i2f z hs
    have k4 := k2.1
    have k5 := k2.2
    obtain ⟨x, q, g1, g2, g3, g4⟩ := fb_quot (c := 8388608 + (s * 2 ^ (23 - k) - 8388608)) (d := 8388608 + (n * 2 ^ (23 - j) - 8388608)) (e := (((k + 127 : Nat) : Int) - 150 - (((j + 127 : Nat) : Int) - 150))) ⟨by omega, by omega⟩ ⟨by omega, by omega⟩ (by omega) (by omega)
    have x1 := g2.1
    have x2 := g2.2
    have e : FP.fdiv (FP.i2f (nI s)) (FP.i2f (nI n)) = fU ((q + 149).toNat + 1) (x - 8388608) := by
      rw [j3, k3]
      show UInt32.ofNat (FP.Core.encode FP.Core.b32 (FP.Core.quotient FP.Core.b32 (FP.Core.decode FP.Core.b32 (fU (k + 127) (s * 2 ^ (23 - k) - 8388608)).toNat) (FP.Core.decode FP.Core.b32 (fU (j + 127) (n * 2 ^ (23 - j) - 8388608)).toNat))) = _
      rw [fU_n (by omega) (by omega), fb_dec (by omega) (by omega) (by omega), fU_n (by omega) (by omega), fb_dec (by omega) (by omega) (by omega)]
      rw [fb_q (by omega), g1, fb_enc g2]
      rfl
    rw [e]
    exact ⟨_, _, fU_op (by omega) (by omega), c_bits (by omega) (by omega) (by omega), r_bits_eq (by omega) (by omega) (by omega)⟩
end BITS
