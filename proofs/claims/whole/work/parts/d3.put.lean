section PUTS
variable {σ σ' : Hp} {S S' : MS} {own : Nat → Nat} {E : Nat} {L : List Nat} {V : Vt} {π : Nat → Nat} {g : Gh}
theorem fo_full : ∀ (m i n : Nat), (∀ t, i ≤ t → t < i + m → hs V t) → fo (fun t n => if hs V t then n + 1 else n) m i n = n + m
  | 0, _, _, _ => rfl
  | m + 1, i, n, h => by
    unfold fo
    rw [if_pos (h i (by omega) (by omega)), fo_full m (i + 1) (n + 1) (fun t a b => h t (by omega) (by omega))]
    omega
theorem lst0 {W : Nat → Nat} : ∀ m, (∃ t, t < m ∧ W t = 0) → ∃ t, t < m ∧ W t = 0 ∧ ∀ s, s < t → W s ≠ 0
  | 0, ⟨t, h, _⟩ => absurd h (Nat.not_lt_zero t)
  | m + 1, ⟨t, h1, h2⟩ => by
    by_cases q : ∃ t, t < m ∧ W t = 0
    · obtain ⟨t, a, b⟩ := lst0 m q
      exact ⟨t, by omega, b⟩
    · have : t = m := by
        by_cases z : t < m
        · exact absurd ⟨t, z, h2⟩ q
        · omega
      exact ⟨t, h1, h2, fun s hs y => q ⟨s, by omega, y⟩⟩
theorem free0 (h : cn V < 40) : ∃ t, t < 40 ∧ V.W t = 0 ∧ ∀ s, s < t → V.W s ≠ 0 := by
  apply lst0
  by_cases q : ∃ t, t < 40 ∧ V.W t = 0
  · exact q
  · have := fo_full (V := V) 40 0 0 (fun t _ b => ⟨by omega, fun z => q ⟨t, by omega, z⟩⟩)
    unfold cn at h
    omega
theorem ffi_mem {f : Nat → Option Nat} {t : Nat} : ∀ (m i : Nat), ffi f m i = some t → ∃ s, f s = some t
  | 0, _, h => by cases h
  | m + 1, i, h => by
    unfold ffi at h
    cases q : f i with
    | none => rw [q] at h; exact ffi_mem m (i + 1) h
    | some x => rw [q] at h; exact ⟨i, q.trans h⟩
/-- the number of a word -/
theorem j_nof (h : Bv σ S V π) {w : Nat} (hw : isW w) : ∃ o : Option Nat, kX7_numberOf σ 3 (nI w) = some (o2i o) ∧ r_thingOf S (nI w) = some (o2i o) ∧ ∀ t, o = some t → hs V t := by
  refine ⟨_, c_numberOf h hw 40 FU 0 (FU_gt (by omega)) rfl, r_thingOf_2_eq h.2.1.w h.2.2 40 FU 0 (FU_gt (by omega)) rfl, fun t ht => ?_⟩
  obtain ⟨s, hs'⟩ := ffi_mem _ _ ht
  by_cases z : hs V s ∧ nI (V.W s) = nI w
  · rw [if_pos z] at hs'
    cases hs'
    exact z.1
  · rw [if_neg z] at hs'
    cases hs'
/-- both may put a word in, or neither -/
theorem j_can (h : Bv σ S V π) (lk : Lk σ) (k14 : σ.kd 14 = 12) (c701 : σ.fi 701 3 = nI (cn V)) (x : Int32) : ∃ p : Bool, kX11_canAdd σ 2 x = some (bI (p = true)) ∧ r_canPut S x = some (bI (p = true)) ∧ (p = true → cn V < 40 ∧ ∃ w, isW w ∧ x = nI w) := by
  have c40 := cn_le V
  unfold kX11_canAdd r_canPut
  rw [lk.m, bind_s, ckd_ok k14]
  rcases w_or x with e | ⟨w, hw, rfl⟩
  · rw [c_lnone e, bind_s, if_pos rfl, r_lettersOf_eq, bind_s, e, if_pos (show o2i (none : Option Nat) = -1 from rfl)]
    exact ⟨false, rfl, rfl, fun q => by cases q⟩
  · obtain ⟨o, o1, o2, o3⟩ := j_nof h hw
    rw [c_lw hw, bind_s, if_neg (cl_ne hw), r_lettersOf_w hw, bind_s, if_neg (cl_ne hw), lk.s, bind_s, gfi_ok h.1.1.2.1, bind_s, c701, bind_s, h.1.k3, o1, o2, bind_s, bind_s, r_things_eq h.2.1.w h.2.2, bind_s]
    cases o with
    | none =>
      rw [if_pos (show o2i (none : Option Nat) = -1 from rfl), if_pos (show o2i (none : Option Nat) = -1 from rfl)]
      by_cases z : cn V = 40
      · rw [if_pos (by rw [z]; decide)]
        exact ⟨false, rfl, rfl, fun q => by cases q⟩
      · have : ¬ (40 : Int32) ≤ nI (cn V) := by rw [show (40 : Int32) = nI 40 from rfl, nI_leI (by omega) (by omega)]; omega
        rw [if_neg this]
        exact ⟨true, rfl, rfl, fun _ => ⟨by omega, w, hw, rfl⟩⟩
    | some t =>
      have t40 := (o3 t rfl).1
      have : ¬ o2i (some t) = -1 := fun y => (nI_m1 (by omega)).mp y
      rw [if_neg this, if_neg this]
      refine ⟨false, ?_, rfl, fun q => by cases q⟩
      split <;> rfl
theorem c_freeN (h : Bv σ S V π) {t : Nat} (ht : t < 40) (h0 : V.W t = 0) (hn : ∀ s, s < t → V.W s ≠ 0) : ∀ (m F i : Nat), m < F → i + m = t → kX7_numberOf_2 σ F 3 0 (nI i) = some (nI t)
  | m, 0, _, h, _ => absurd h (Nat.not_lt_zero m)
  | m, F + 1, i, hF, hi => by
    have l31 := isW_31 (h.2.2.1 i (by omega))
    unfold kX7_numberOf_2
    rw [show (40 : Int32) = nI 40 from rfl, if_neg (nI_ge (by omega) (by omega)), gfr_ok h.1.1.2.1, bind_s, h.1.2.1.2.2.1, ald_ok h.1.1.2.2.2.1 (by rw [h.1.1.2.2.2.2.1]; omega) (by omega), bind_s, h.1.2.2.1 i (by omega)]
    by_cases z : m = 0
    · have : i = t := by omega
      rw [this, h0, if_pos (show nI 0 = 0 from rfl)]
    · rw [if_neg (nI_ne0 (by have := hn i (by omega); omega) l31), nI_1]
      exact c_freeN h ht h0 hn (m - 1) F (i + 1) (by omega) (by omega)
theorem r_freeN (rw0 : RW (S.1 0) 2 V) (hv : Vw V) {x : Int32} {t : Nat} (ht : t < 40) (h0 : V.W t = 0) (hn : ∀ s, s < t → V.W s ≠ 0) : ∀ (m F i : Nat), m < F → i + m = t → r_tellWord_2 F x (nI i) S = (r_putNow (r0 S (upd (S.1 0) (6 + t) x)) (nI t)).bind (fun S3 => some (nI t, S3))
  | m, 0, _, h, _ => absurd h (Nat.not_lt_zero m)
  | m, F + 1, i, hF, hi => by
    unfold r_tellWord_2
    rw [r_isThing_eq rw0 hv (by omega), bind_s]
    by_cases z : m = 0
    · have : i = t := by omega
      rw [this, bI_f (fun y => y.2 h0), if_pos rfl, show (6 : Int32) = nI 6 from rfl, nI_add, wr_r0 (by omega), bind_s]
    · rw [bI_t ⟨by omega, hn i (by omega)⟩, if_neg (by decide), nI_1]
      exact r_freeN rw0 hv ht h0 hn (m - 1) F (i + 1) (by omega) (by omega)
/-- a word comes in by the first free number -/
theorem j_putw (J : JC σ S E L V π g) (bv : Bv σ S V π) (hc : cn V < 40) {w : Nat} (hw : isW w) : ∃ t σ1 S1 V1, t < 40 ∧ kX7_freeNumber σ 3 = some (nI t) ∧ kX11_bringIn σ 2 (nI t) (nI w) = some (nI t, σ1) ∧ r_tellWord S (nI w) = some (nI t, S1) ∧ Jr σ S E L V1 σ1 S1 := by
  obtain ⟨t, ht, h0, hn⟩ := free0 hc
  obtain ⟨σ1, S1, a, b, c⟩ := jc_in J ht h0 hw Kq.rfl Jq.rfl
  refine ⟨t, σ1, S1, _, ht, ?_, a, ?_, c⟩
  · unfold kX7_freeNumber kX7_numberOf
    rw [bv.1.k3, show kX7_numberOf_2 σ FU 3 0 0 = _ from c_freeN bv ht h0 hn t FU 0 (FU_gt (by omega)) (by omega), bind_s]
  · unfold r_tellWord
    rw [show r_tellWord_2 FU (nI w) 0 S = _ from r_freeN bv.2.1.w bv.2.2 ht h0 hn t FU 0 (FU_gt (by omega)) (by omega), b, bind_s]
theorem Iv.c701 (h : Iv σ S E L V π g own) : σ.fi 701 3 = nI (cn V) := h.1.1.1.2.2.2.1.1
theorem ls_put : LS_put In := fun n σ S x _ ⟨E, L, V, π, g, own, h⟩ => by
  obtain ⟨p, a, b, c⟩ := j_can h.bv h.lk h.k14 h.c701 x
  unfold kX11_put r_put
  rw [ckd_ok h.lk.1, a, bind_s, b, bind_s]
  cases p with
  | false => exact ⟨-1, σ, S, rfl, rfl, h.in⟩
  | true =>
    obtain ⟨hc, w, hw, rfl⟩ := c rfl
    obtain ⟨σ1, S1, own1, k1, k2, h1, -, -⟩ := h.keep
    obtain ⟨t, σ2, S2, V1, ht, d1, d2, d3, d4⟩ := j_putw h1.jc h1.bv hc hw
    obtain ⟨E', L', V', π', g', own', i, -⟩ := h1.jr d4
    refine ⟨nI t, σ2, S2, ?_, ?_, i.in⟩
    · rw [bI_t rfl, if_neg (show ¬ (1 : Int32) = 0 by decide), h.lk.f7, bind_s, h.lk.f0, bind_s, ckd_ok h.k38, k1, bind_s, h1.lk.f0, bind_s, h1.bv.1.k3, d1, bind_s, ckd_ok h1.lk.1, d2, bd2_s]
    · rw [bI_t rfl, if_neg (show ¬ (1 : Int32) = 0 by decide), k2, bind_s, d3, bd2_s]
/-- a thing goes out -/
theorem ls_drop : LS_drop In := fun n σ S x _ ⟨E, L, V, π, g, own, h⟩ => by
  obtain ⟨p, a, b, c⟩ := h.bv.h x
  unfold kX11_drop r_drop
  rw [h.lk.f0, bind_s, h.bv.1.k3, a, bind_s, b, bind_s]
  cases p with
  | false => exact ⟨0, σ, S, rfl, rfl, h.in⟩
  | true =>
    obtain ⟨t, rfl, ht⟩ := c rfl
    obtain ⟨σ1, S1, own1, k1, k2, h1, -, -⟩ := h.keep
    obtain ⟨v, σ2, S2, d1, d2, d3⟩ := jc_out h1.jc ht Kq.rfl Jq.rfl
    rw [bI_t rfl, if_neg (show ¬ (1 : Int32) = 0 by decide), h.lk.f7, bind_s, bind_s, ckd_ok h.k38, k1, bind_s, ckd_ok h1.lk.1, d1, bd2_s, if_neg (show ¬ (1 : Int32) = 0 by decide), k2, bind_s, d2, bind_s]
    rcases d3 with ⟨rfl, d4⟩ | ⟨rfl, l1, l2, σ3, d5, d4⟩
    · obtain ⟨E', L', V', π', g', own', i, -⟩ := h1.jr d4
      rw [if_pos rfl]
      exact ⟨1, σ2, S2, rfl, rfl, i.in⟩
    · obtain ⟨E', L', V', π', g', own', i, -⟩ := h1.jr d4
      rw [if_neg (show ¬ (1 : Int32) = 0 by decide), l1.f3, bind_s, ckd_ok l2, d5, bind_s]
      exact ⟨1, σ3, S2, rfl, rfl, i.in⟩
theorem ls_build : LS_build In := fun n σ S _ ⟨E, L, V, π, g, own, h⟩ => by
  obtain ⟨σ1, S1, own1, k1, k2, h1, -, -⟩ := h.keep
  obtain ⟨σ2, S2, a, b, c⟩ := jc_build h1.jc.1 h1.2.1.2.1 h1.bv.2.1.w Kq.rfl Jq.rfl
  obtain ⟨E', L', V', π', g', own', i, -⟩ := h1.jr c
  refine ⟨nI V'.U, σ2, S2, ?_, ?_, i.in⟩
  · unfold kX11_build
    rw [h.lk.f7, bind_s, h.lk.f0, bind_s, ckd_ok h.k38, k1, bind_s, h1.lk.f3, bind_s, ckd_ok h1.1.2.1.1.1, a, bind_s, i.lk.f0, bind_s, i.1.1.u, bind_s]
  · unfold r_build
    rw [k2, bind_s, b, bind_s, r_pages_eq i.2.1.1 i.2.1.2.2.1, bind_s]
end PUTS
