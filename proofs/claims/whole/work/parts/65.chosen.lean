-- what the tree asks of the store beside its state
def Tv (σ : Hp) (V : Vt) : Prop := (σ.kd 23 = 19 ∧ σ.kd 19 = 11 ∧ σ.kd 20 = 1 ∧ σ.ln 20 = 1600 ∧ σ.kd 24 = 1 ∧ σ.ln 24 = 40 ∧ σ.kd 25 = 1 ∧ σ.ln 25 = 40 ∧ σ.kd 26 = 2 ∧ σ.ln 26 = 7) ∧ (σ.fr 900 23 = 3 ∧ σ.fr 901 23 = 19 ∧ σ.fr 902 23 = 24 ∧ σ.fr 903 23 = 25 ∧ σ.fr 904 23 = 26 ∧ σ.fr 101 19 = 20) ∧ (∀ a b, hs V a → hs V b → σ.ar 20 (a * 40 + b) = nI (far V a b))
section TV
variable {σ : Hp} {V : Vt}
theorem Tv.k (h : Tv σ V) {Y : Type} {o : Option Y} : ckd σ 23 19 o = o := ckd_ok h.1.1
theorem Tv.kf (h : Tv σ V) {Y : Type} {o : Option Y} : ckd σ 19 11 o = o := ckd_ok h.1.2.1
theorem Tv.st (h : Tv σ V) : gfr σ 19 900 23 = some 3 := by rw [gfr_ok h.1.1, h.2.1.1]
theorem Tv.fa (h : Tv σ V) : gfr σ 19 901 23 = some 19 := by rw [gfr_ok h.1.1, h.2.1.2.1]
theorem Tv.pp (h : Tv σ V) : gfr σ 19 902 23 = some 24 := by rw [gfr_ok h.1.1, h.2.1.2.2.1]
theorem Tv.pe (h : Tv σ V) : gfr σ 19 903 23 = some 25 := by rw [gfr_ok h.1.1, h.2.1.2.2.2.1]
theorem Tv.ts (h : Tv σ V) : gfr σ 19 904 23 = some 26 := by rw [gfr_ok h.1.1, h.2.1.2.2.2.2.1]
theorem Tv.of (h : Tv σ V) {a b : Nat} (ha : hs V a) (hb : hs V b) : kX1_of σ 19 (nI a) (nI b) = some (nI (far V a b)) := by
  have e40 : (40 : Int32) = nI 40 := rfl
  have := ha.1
  have := hb.1
  unfold kX1_of
  rw [gfr_ok h.1.2.1, bind_s, h.2.1.2.2.2.2.2, e40, pk_mul, nI_add, ald_ok h.1.2.2.1 (by rw [h.1.2.2.2.1]; omega) (by omega), bind_s, h.2.2 a b ha hb]
theorem Tv.df {A : Nat → Prop} {σ' : Hp} (h : Tv σ V) (hw : Wn σ) (d : Df A σ σ') (h23 : ¬ A 23) (h19 : ¬ A 19) (h20 : ¬ A 20) : Tv σ' V := by
  obtain ⟨⟨a1, a2, a3, a4, a5, a6, a7, a8, a9, a10⟩, ⟨b1, b2, b3, b4, b5, b6⟩, c⟩ := h
  have k23 := d.2.1 23 (hw.lt a1)
  have k19 := d.2.1 19 (hw.lt a2)
  have k20 := d.2.1 20 (hw.lt a3)
  have k24 := d.2.1 24 (hw.lt a5)
  have k25 := d.2.1 25 (hw.lt a7)
  have k26 := d.2.1 26 (hw.lt a9)
  have q23 := (d.2.2 23 (hw.lt a1) h23).2.1
  have q19 := (d.2.2 19 (hw.lt a2) h19).2.1
  have q20 := (d.2.2 20 (hw.lt a3) h20).2.2.1
  exact ⟨⟨k23.1.trans a1, k19.1.trans a2, k20.1.trans a3, k20.2.trans a4, k24.1.trans a5, k24.2.trans a6, k25.1.trans a7, k25.2.trans a8, k26.1.trans a9, k26.2.trans a10⟩, ⟨(q23 _).trans b1, (q23 _).trans b2, (q23 _).trans b3, (q23 _).trans b4, (q23 _).trans b5, (q19 _).trans b6⟩, fun a b ha hb => by rw [q20]; exact c a b ha hb⟩
end TV
theorem zb_b2 {p : Prop} [Decidable p] : zb (bI p) = some (bI p) := zb_bI
theorem bI_eq {p q : Prop} [Decidable p] [Decidable q] : (bI p = bI q) ↔ (p ↔ q) := by
  unfold bI
  by_cases hp : p <;> by_cases hq : q <;> simp [hp, hq]
theorem bI_0 {p : Prop} [Decidable p] : (bI p = 0) ↔ ¬ p := by
  unfold bI
  by_cases hp : p <;> simp [hp]
section RPt
variable {S : MS} {q k t r w : Nat} {v : Int32} {lf : Bool} {L : List Re}
theorem RP.t0 (h : RP (S.1 0) (94 + 30 * q) lf L) (hq : q < 784) (he : L[k]? = some (t, r, w, v)) : r_entryOf S (nI q) (nI k) 0 = some (nI t) := h.e0 hq he
theorem RP.t1 (h : RP (S.1 0) (94 + 30 * q) lf L) (hq : q < 784) (he : L[k]? = some (t, r, w, v)) : r_entryOf S (nI q) (nI k) 1 = some (nI r) := h.e1 hq he
theorem RP.t2 (h : RP (S.1 0) (94 + 30 * q) lf L) (hq : q < 784) (he : L[k]? = some (t, r, w, v)) : r_entryOf S (nI q) (nI k) 2 = some (nI w) := h.e2 hq he
theorem RP.t3 (h : RP (S.1 0) (94 + 30 * q) lf L) (hq : q < 784) (he : L[k]? = some (t, r, w, v)) : r_entryOf S (nI q) (nI k) 3 = some v := h.e3 hq he
end RPt
section CH
variable {σ : Hp} {S : MS} {V : Vt} {a q : Nat} {p : Pg} {L : List Re} {t : Nat}
/-- the entry that a thing goes into: both find the same one -/
theorem j_chosen (tv : Tv σ V) (hv : Vw V) (pc : PC σ a p) (rw0 : RW (S.1 0) 2 V) (rp : RP (S.1 0) (94 + 30 * q) p.lf L) (hq : q < 784) (hL : L.length = p.es.length) (hLe : ∀ (k : Nat) (e : Nat × Nat × Nat), p.es[k]? = some e → ∃ w v, L[k]? = some (e.1, e.2.1, w, v)) (ht : hs V t) (hes : ∀ e ∈ p.es, hs V e.1 ∧ e.2.1 < 10000) (hne : 0 < p.es.length) : ∃ k S', k < p.es.length ∧ kX9_entryFor σ 23 a (nI t) = some (nI k) ∧ r_chosen S (nI q) (nI t) = some (nI k, S') ∧ S2 S S' := by
  have h7 := pc.le
  have t40 := ht.1
  have e0 : (0 : Int32) = nI 0 := rfl
  -- one round of the reference, the state seen through S2
  have rr : ∀ T, S2 S T → RP (T.1 0) (94 + 30 * q) p.lf L ∧ RW (T.1 0) 2 V := fun T g => by
    rw [g.r (by decide) (by decide)]
    exact ⟨rp, rw0⟩
  -- the class's round at an entry
  have cr : ∀ (F i : Nat) (e : Nat × Nat × Nat) (b by0 re : Int32), p.es[i]? = some e → kX9_entryFor_11 σ (F + 1) 23 a (nI t) b by0 re (nI i) = (if far V e.1 t ≤ e.2.1 then kX9_entryFor_76 σ (kX9_entryFor_11 σ F) 23 a (nI t) b by0 re (nI i) 1 (nI (far V e.1 t)) else kX9_entryFor_76 σ (kX9_entryFor_11 σ F) 23 a (nI t) b by0 re (nI i) 0 (nI (far V e.1 t - e.2.1))) := by
    intro F i e b by0 re he
    have hi := get_lt he
    have hh := hes e (List.mem_of_getElem? he)
    have fl := far_le hv e.1 t
    rw [kX9_entryFor_11.eq_2, pc.n, bind_s, if_neg (nI_ge hi (by omega)), tv.fa, bind_s, pc.1.f1, bind_s, pc.t he, bind_s, tv.kf, tv.of hh.1 ht, bind_s, pc.1.f2, bind_s, pc.r he, bind_s]
    unfold kX9_entryFor_54
    by_cases z : far V e.1 t ≤ e.2.1
    · rw [if_neg (nI_nlt z (by omega)), if_pos z, if_neg (by decide)]
    · rw [if_pos (nI_lt (by omega) (by omega)), if_neg z, if_pos rfl, pc.1.f2, bind_s, pc.r he, bind_s, pk_sub (by omega)]
  have rc : ∀ (F i : Nat) (e : Nat × Nat × Nat) (b by0 re : Int32) (T : MS), S2 S T → p.es[i]? = some e → ∃ T', S2 S T' ∧ r_chosen_11 (F + 1) (nI q) (nI t) b by0 re (nI i) T = (if far V e.1 t ≤ e.2.1 then r_chosen_73 (r_chosen_11 F) (nI q) (nI t) b by0 re (nI i) 1 (nI (far V e.1 t)) T' else r_chosen_73 (r_chosen_11 F) (nI q) (nI t) b by0 re (nI i) 0 (nI (far V e.1 t - e.2.1)) T') := by
    intro F i e b by0 re T g he
    have hi := get_lt he
    have hh := hes e (List.mem_of_getElem? he)
    have fl := far_le hv e.1 t
    obtain ⟨w, v, hLi⟩ := hLe i e he
    obtain ⟨p1, p2⟩ := rr T g
    obtain ⟨T1, g1, g2⟩ := r_farOf_eq p2 hv hh.1 ht
    obtain ⟨p3, p4⟩ := rr T1 (g.trans g2)
    refine ⟨T1, g.trans g2, ?_⟩
    rw [r_chosen_11.eq_2, p1.n hq, bind_s, hL, if_neg (nI_ge hi (by omega)), p1.t0 hq hLi, bind_s, g1, bd2_s, p3.t1 hq hLi, bind_s]
    unfold r_chosen_59
    by_cases z : far V e.1 t ≤ e.2.1
    · have : ¬ (0 : Int32) < nI (far V e.1 t) - nI e.2.1 := by
        by_cases z2 : far V e.1 t = e.2.1
        · rw [z2, pk_sub (Nat.le_refl _), Nat.sub_self]; decide
        · have := pk_sneg (show e.2.1 < 2 ^ 30 by omega) (show far V e.1 t < e.2.1 by omega)
          exact Int32.not_lt.mpr (Int32.le_of_lt this)
      rw [if_neg this, if_pos z, if_neg (by decide)]
    · rw [pk_sub (by omega), if_pos (show (0 : Int32) < nI _ from nI_lt (a := 0) (by omega) (by omega)), if_neg z, if_pos rfl]
  obtain ⟨e, he⟩ : ∃ e, p.es[0]? = some e := ⟨p.es[0], List.getElem?_eq_getElem hne⟩
  have fl := far_le hv e.1 t
  unfold kX9_entryFor r_chosen
  rw [show FU = 999999 + 1 from rfl]
  obtain ⟨T0, g0, r0e⟩ := rc 999999 0 e (-1) 0 0 S S2.rfl he
  rw [e0] at r0e ⊢
  rw [cr 999999 0 e _ _ _ he, r0e]
  -- from 1 on both have the same best
  have loop : ∀ (k by1 : Nat) (re : Int32) (T : MS), k < p.es.length → k < 1 → by1 < 20000 → (re = 0 ∨ re = 1) → S2 S T → ∃ k' S', k' < p.es.length ∧ kX9_entryFor_11 σ 999999 23 a (nI t) (nI k) (nI by1) re (nI 1) = some (nI k') ∧ r_chosen_11 999999 (nI q) (nI t) (nI k) (nI by1) re (nI 1) T = some (nI k', S') ∧ S2 S S' := by
    intro k by1 re T hk hk1 hb hr hT
    have := lp p.es.length (fun F i (s : Nat × Nat × Int32 × MS) => (kX9_entryFor_11 σ F 23 a (nI t) (nI s.1) (nI s.2.1) s.2.2.1 (nI i), r_chosen_11 F (nI q) (nI t) (nI s.1) (nI s.2.1) s.2.2.1 (nI i) s.2.2.2)) (fun i s => s.1 < i ∧ s.1 < p.es.length ∧ s.2.1 < 20000 ∧ (s.2.2.1 = 0 ∨ s.2.2.1 = 1) ∧ S2 S s.2.2.2) (fun r => ∃ k' S', r = (some (nI k'), some (nI k', S')) ∧ k' < p.es.length ∧ S2 S S') (fun F s j => ?_) (fun F i s hi j => Or.inl ?_) (p.es.length - 1) 1 999999 (k, by1, re, T) (by omega) (by omega) ⟨hk1, hk, hb, hr, hT⟩
    · obtain ⟨k', S', g1, g2, g3⟩ := this
      exact ⟨k', S', g2, (Prod.mk.inj g1).1, (Prod.mk.inj g1).2, g3⟩
    · obtain ⟨j0, j1, j2, j3, j4⟩ := j
      obtain ⟨p1, p2⟩ := rr s.2.2.2 j4
      refine ⟨s.1, s.2.2.2, ?_, j1, j4⟩
      rw [kX9_entryFor_11.eq_2, r_chosen_11.eq_2, pc.n, bind_s, p1.n hq, bind_s, hL, if_pos (nI_le (Nat.le_refl _) (by omega)), if_pos (nI_le (Nat.le_refl _) (by omega))]
    · obtain ⟨k, by1, re, T⟩ := s
      obtain ⟨j0, j1, j2, j3, j4⟩ := j
      have j0 : k < i := j0
      have j1 : k < p.es.length := j1
      have j2 : by1 < 20000 := j2
      have j3 : re = 0 ∨ re = 1 := j3
      have j4 : S2 S T := j4
      obtain ⟨e, he⟩ : ∃ e, p.es[i]? = some e := ⟨p.es[i], List.getElem?_eq_getElem hi⟩
      have fl := far_le hv e.1 t
      have n0 : ¬ nI i = 0 := nI_ne0 (by omega) (by omega)
      have nk : ¬ nI k = -1 := fun y => (nI_m1 (by omega)).mp y
      obtain ⟨T', g1, g2⟩ := rc F i e (nI k) (nI by1) re T j4 he
      show ∃ s', _ ∧ (kX9_entryFor_11 σ (F + 1) 23 a (nI t) (nI k) (nI by1) re (nI i), r_chosen_11 (F + 1) (nI q) (nI t) (nI k) (nI by1) re (nI i) T) = _
      rw [cr F i e _ _ _ he, g2]
      unfold kX9_entryFor_76 kX9_entryFor_102 kX9_entryFor_114 kX9_entryFor_125 r_chosen_73 r_chosen_90 r_chosen_107 r_chosen_118
      have fb : by1 < 2 ^ 31 := by omega
      have two : ∀ (d : Nat) (re2 : Int32), d < 20000 → (re2 = 0 ∨ re2 = 1) → ∃ s' : Nat × Nat × Int32 × MS, (s'.1 < i + 1 ∧ s'.1 < p.es.length ∧ s'.2.1 < 20000 ∧ (s'.2.2.1 = 0 ∨ s'.2.2.1 = 1) ∧ S2 S s'.2.2.2) ∧ (kX9_entryFor_11 σ F 23 a (nI t) (nI i) (nI d) re2 (nI (i + 1)), r_chosen_11 F (nI q) (nI t) (nI i) (nI d) re2 (nI (i + 1)) T') = (kX9_entryFor_11 σ F 23 a (nI t) (nI s'.1) (nI s'.2.1) s'.2.2.1 (nI (i + 1)), r_chosen_11 F (nI q) (nI t) (nI s'.1) (nI s'.2.1) s'.2.2.1 (nI (i + 1)) s'.2.2.2) := fun d re2 hd hr => ⟨(i, d, re2, T'), ⟨by show i < i + 1; omega, hi, hd, hr, g1⟩, rfl⟩
      have old : ∀ (re2 : Int32), (re2 = 0 ∨ re2 = 1) → ∃ s' : Nat × Nat × Int32 × MS, (s'.1 < i + 1 ∧ s'.1 < p.es.length ∧ s'.2.1 < 20000 ∧ (s'.2.2.1 = 0 ∨ s'.2.2.1 = 1) ∧ S2 S s'.2.2.2) ∧ (kX9_entryFor_11 σ F 23 a (nI t) (nI k) (nI by1) re2 (nI (i + 1)), r_chosen_11 F (nI q) (nI t) (nI k) (nI by1) re2 (nI (i + 1)) T') = (kX9_entryFor_11 σ F 23 a (nI t) (nI s'.1) (nI s'.2.1) s'.2.2.1 (nI (i + 1)), r_chosen_11 F (nI q) (nI t) (nI s'.1) (nI s'.2.1) s'.2.2.1 (nI (i + 1)) s'.2.2.2) := fun re2 hr => ⟨(k, by1, re2, T'), ⟨by show k < i + 1; omega, j1, j2, hr, g1⟩, rfl⟩
      by_cases z : far V e.1 t ≤ e.2.1
      · have fa : far V e.1 t < 2 ^ 31 := by omega
        rcases j3 with rfl | rfl
        · simp (decide := true) only [z, n0, nk, nI_leI fb fa, nI_ltI fa fb, nI_1, if_true, if_false]
          exact two _ 1 (by omega) (Or.inr rfl)
        · simp (decide := true) only [z, n0, nk, nI_leI fb fa, nI_ltI fa fb, nI_1, if_true, if_false]
          by_cases y : far V e.1 t < by1
          · have y2 : ¬ by1 ≤ far V e.1 t := by omega
            simp (decide := true) only [y, y2, if_true, if_false]
            exact two _ 1 (by omega) (Or.inr rfl)
          · have y2 : by1 ≤ far V e.1 t := by omega
            simp (decide := true) only [y, y2, if_true, if_false]
            exact old 1 (Or.inr rfl)
      · have fa : far V e.1 t - e.2.1 < 2 ^ 31 := by omega
        rcases j3 with rfl | rfl
        · simp (decide := true) only [z, n0, nk, nI_leI fb fa, nI_ltI fa fb, nI_1, if_true, if_false]
          by_cases y : far V e.1 t - e.2.1 < by1
          · have y2 : ¬ by1 ≤ far V e.1 t - e.2.1 := by omega
            simp (decide := true) only [y, y2, if_true, if_false]
            exact two _ 0 (by omega) (Or.inl rfl)
          · have y2 : by1 ≤ far V e.1 t - e.2.1 := by omega
            simp (decide := true) only [y, y2, if_true, if_false]
            exact old 0 (Or.inl rfl)
        · simp (decide := true) only [z, n0, nk, nI_leI fb fa, nI_ltI fa fb, nI_1, if_true, if_false]
          exact old 1 (Or.inr rfl)
  unfold kX9_entryFor_76 kX9_entryFor_102 kX9_entryFor_114 kX9_entryFor_125 r_chosen_73 r_chosen_107 r_chosen_118
  by_cases z : far V e.1 t ≤ e.2.1
  · simp only [if_pos z, nI_0, if_true, if_pos (show (-1 : Int32) = -1 from rfl)]
    rw [if_neg (by decide), show (0 : Int32) + 1 = nI 1 from rfl, show (0 : Int32) = nI 0 from rfl]
    exact loop 0 (far V e.1 t) 1 T0 hne (by omega) (by omega) (Or.inr rfl) g0
  · simp only [if_neg z, nI_0, if_true, if_pos (show (-1 : Int32) = -1 from rfl)]
    have : ∀ {Y : Type} {c : Prop} [Decidable c] {y : Y}, (if c then y else y) = y := fun {Y c _ y} => by split <;> rfl
    rw [this, show (0 : Int32) + 1 = nI 1 from rfl, show (0 : Int32) = nI 0 from rfl]
    exact loop 0 (far V e.1 t - e.2.1) 0 T0 hne (by omega) (by omega) (Or.inl rfl) g0
end CH
