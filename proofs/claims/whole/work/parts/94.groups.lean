section GRP
variable {σ : Hp} {S : MS} {V : Vt} {π : Nat → Nat}
def relb (V : Vt) (lab : Nat → Nat) (f g : Nat) : Nat → Nat := fun t => if hs V t ∧ lab t = f then g else lab t
def fst1 (V : Vt) (lab : Nat → Nat) (t : Nat) : Prop := hs V t ∧ ∀ t', t' < t → hs V t' → lab t' ≠ lab t
/-- how many labels there are -/
noncomputable def Fst (V : Vt) (lab : Nat → Nat) : Nat := by
  classical
  exact su (fun t => if fst1 V lab t then 1 else 0) 40
/-- labels of things are things, others have their own -/
def Lg (V : Vt) (lab : Nat → Nat) : Prop := (∀ t, hs V t → hs V (lab t)) ∧ ∀ t, ¬ hs V t → lab t = t
theorem Lg.lt {lab : Nat → Nat} (h : Lg V lab) {t : Nat} (ht : t < 40) : lab t < 40 := by
  by_cases q : hs V t
  · exact (h.1 t q).1
  · rw [h.2 t q]; exact ht
theorem Lg.re {lab : Nat → Nat} {a b : Nat} (h : Lg V lab) (ha : hs V a) : Lg V (relb V lab b (lab a)) := by
  unfold relb
  refine ⟨fun t ht => ?_, fun t ht => ?_⟩
  · by_cases q : hs V t ∧ lab t = b
    · simp only [if_pos q]; exact h.1 a ha
    · simp only [if_neg q]; exact h.1 t ht
  · simp only [if_neg (fun y : hs V t ∧ lab t = b => ht y.1)]; exact h.2 t ht
theorem Fst_merge {lab : Nat → Nat} {a b : Nat} (ha : hs V a) (hb : hs V b) (ne : lab a ≠ lab b) : Fst V lab = Fst V (relb V lab (lab b) (lab a)) + 1 := by
  obtain ⟨tf, ⟨f1, f2⟩, f3⟩ := pk_least (fun t => hs V t ∧ lab t = lab b) ⟨b, hb, rfl⟩
  obtain ⟨tg, ⟨g1, g2⟩, g3⟩ := pk_least (fun t => hs V t ∧ lab t = lab a) ⟨a, ha, rfl⟩
  have nfg : tf ≠ tg := fun z => ne (by rw [← g2, ← f2, z])
  have re : ∀ t, hs V t → (relb V lab (lab b) (lab a) t = lab a ↔ (lab t = lab b ∨ lab t = lab a)) := fun t ht => by
    unfold relb
    by_cases q : lab t = lab b
    · rw [if_pos ⟨ht, q⟩]; exact ⟨fun _ => Or.inl q, fun _ => rfl⟩
    · rw [if_neg (fun y => q y.2)]; exact ⟨fun y => Or.inr y, fun y => y.resolve_left q⟩
  have rn : ∀ t, lab t ≠ lab b → relb V lab (lab b) (lab a) t = lab t := fun t ht => if_neg (fun y => ht y.2)
  have w40 : (max tf tg) < 40 := by
    have := f1.1
    have := g1.1
    omega
  have key : ∀ t, fst1 V (relb V lab (lab b) (lab a)) t ↔ (fst1 V lab t ∧ t ≠ max tf tg) := fun t => by
    constructor
    · intro ⟨h1, h2⟩
      refine ⟨⟨h1, fun t' ht' hst e => h2 t' ht' hst ?_⟩, fun z => ?_⟩
      · unfold relb
        rw [e]
        by_cases q : lab t = lab b
        · rw [if_pos ⟨hst, q⟩, if_pos ⟨h1, q⟩]
        · rw [if_neg (fun y => q y.2), if_neg (fun y => q y.2)]
      · have lt : lab t = lab b ∨ lab t = lab a := by
          rcases Nat.lt_or_ge tf tg with q | q
          · rw [z, Nat.max_eq_right (by omega)]; exact Or.inr g2
          · rw [z, Nat.max_eq_left (by omega)]; exact Or.inl f2
        have e1 := (re t h1).mpr lt
        rcases Nat.lt_or_ge tf tg with q | q
        · exact h2 tf (by omega) f1 (((re tf f1).mpr (Or.inl f2)).trans e1.symm)
        · exact h2 tg (by omega) g1 (((re tg g1).mpr (Or.inr g2)).trans e1.symm)
    · intro ⟨⟨h1, h2⟩, h3⟩
      refine ⟨h1, fun t' ht' hst e => ?_⟩
      by_cases q : lab t = lab b ∨ lab t = lab a
      · have e1 := (re t h1).mpr q
        rw [e1] at e
        have q' := (re t' hst).mp e
        have le' : min tf tg ≤ t' := by
          rcases q' with y | y
          · have : tf ≤ t' := Nat.le_of_not_lt (fun v => f3 t' v ⟨hst, y⟩)
            omega
          · have : tg ≤ t' := Nat.le_of_not_lt (fun v => g3 t' v ⟨hst, y⟩)
            omega
        rcases q with y | y
        · have : t ≤ tf := Nat.le_of_not_lt (fun v => h2 tf v f1 (f2.trans y.symm))
          have : tf ≤ t := Nat.le_of_not_lt (fun v => f3 t v ⟨h1, y⟩)
          omega
        · have : t ≤ tg := Nat.le_of_not_lt (fun v => h2 tg v g1 (g2.trans y.symm))
          have : tg ≤ t := Nat.le_of_not_lt (fun v => g3 t v ⟨h1, y⟩)
          omega
      · have q1 : lab t ≠ lab b := fun y => q (Or.inl y)
        have q2 : lab t ≠ lab a := fun y => q (Or.inr y)
        rw [rn t q1] at e
        by_cases y : lab t' = lab b
        · rw [(re t' hst).mpr (Or.inl y)] at e
          exact q2 e.symm
        · rw [rn t' y] at e
          exact h2 t' ht' hst e
  have wf : fst1 V lab (max tf tg) := by
    rcases Nat.lt_or_ge tf tg with q | q
    · rw [Nat.max_eq_right (by omega)]
      exact ⟨g1, fun t' ht' hst e => g3 t' ht' ⟨hst, e.trans g2⟩⟩
    · rw [Nat.max_eq_left (by omega)]
      exact ⟨f1, fun t' ht' hst e => f3 t' ht' ⟨hst, e.trans f2⟩⟩
  classical
  have := su_upd (h := fun t => if fst1 V lab t then 1 else 0) (f := fun t => if fst1 V (relb V lab (lab b) (lab a)) t then 1 else 0) (k := max tf tg) (d := 1) (by
    show (if fst1 V lab (max tf tg) then 1 else 0) = (if fst1 V (relb V lab (lab b) (lab a)) (max tf tg) then 1 else 0) + 1
    rw [if_pos wf, if_neg (fun y => ((key _).mp y).2 rfl)]) (fun i hi => by
    show (if fst1 V lab i then 1 else 0) = (if fst1 V (relb V lab (lab b) (lab a)) i then 1 else 0)
    by_cases z : fst1 V lab i
    · rw [if_pos z, if_pos ((key i).mpr ⟨z, hi⟩)]
    · rw [if_neg z, if_neg (fun y => z ((key i).mp y).1)]) 40
  rw [if_pos w40] at this
  unfold Fst
  exact this
theorem Fst_id : Fst V (fun t => t) = cn V := by
  rw [cn_su]
  unfold Fst
  classical
  refine su_congr 40 (fun t _ => ?_)
  show (if fst1 V (fun t => t) t then 1 else 0) = (if hs V t then 1 else 0)
  by_cases z : hs V t
  · rw [if_pos z, if_pos ⟨z, fun t' ht' _ e => by have e : t' = t := e; omega⟩]
  · rw [if_neg z, if_neg (fun y => z y.1)]
/-- one pair is joined -/
def gst (V : Vt) (r a b : Nat) (lab : Nat → Nat) : Nat → Nat := if hs V a ∧ hs V b ∧ far V a b ≤ r ∧ lab a ≠ lab b then relb V lab (lab b) (lab a) else lab
def gin (V : Vt) (r a : Nat) : Nat → Nat → (Nat → Nat) → Nat → Nat
  | 0, _, lab => lab
  | m + 1, b, lab => gin V r a m (b + 1) (gst V r a b lab)
def gou (V : Vt) (r : Nat) : Nat → Nat → (Nat → Nat) → Nat → Nat
  | 0, _, lab => lab
  | m + 1, a, lab => gou V r m (a + 1) (gin V r a (40 - (a + 1)) (a + 1) lab)
theorem gst_ok {r a b : Nat} {lab : Nat → Nat} (h : Lg V lab) : Lg V (gst V r a b lab) := by
  unfold gst
  split
  · rename_i q; exact h.re q.1
  · exact h
theorem len24 : m_len 24 = 40 := rfl
/-- the class's labels -/
def Gc (s : Hp) (lab : Nat → Nat) : Prop := ∀ t, t < 40 → s.ar 35 t = nI (lab t)
theorem c_relabel (h : Bv σ S V π) (sr : Sr σ) {lab : Nat → Nat} {f g : Nat} (lg : Lg V lab) (gc : Gc σ lab) (hf : hs V f) : ∃ σ', kX8_relabel σ 33 (nI f) (nI g) = some σ' ∧ Sv σ σ' ∧ Gc σ' (relb V lab f g) := by
  have e40 : (40 : Int32) = nI 40 := rfl
  have f40 := hf.1
  unfold kX8_relabel
  refine lp 40 (fun F i (s : Hp) => kX8_relabel_2 F 33 (nI f) (nI g) (nI i) s) (fun i s => Sv σ s ∧ ∀ t, t < 40 → s.ar 35 t = nI (if t < i then relb V lab f g t else lab t)) (fun r => ∃ σ', r = some σ' ∧ Sv σ σ' ∧ Gc σ' (relb V lab f g)) (fun F s J => ?_) (fun F i s hi J => Or.inl ?_) 40 0 FU σ FU_gt rfl ⟨Sv.rfl, fun t ht => by rw [if_neg (Nat.not_lt_zero _)]; exact gc t ht⟩
  · refine ⟨s, ?_, J.1, fun t ht => by rw [J.2 t ht, if_pos ht]⟩
    show kX8_relabel_2 (F + 1) 33 (nI f) (nI g) (nI 40) s = _
    rw [kX8_relabel_2.eq_2, if_pos (by decide)]
  · obtain ⟨j1, j2⟩ := J
    have hS := h.sv j1
    have srS := sr.sv j1
    have f6 : gfr s 18 806 33 = some 35 := by rw [gfr_ok hS.1.1.1, srS.2.2.2.1]
    have li := j2 i hi
    rw [if_neg (Nat.lt_irrefl i)] at li
    have ai : ald s 1 35 (nI i) = some (nI (lab i)) := by rw [ald_ok srS.1.2.1 (by rw [srS.2.1.2.1]; exact hi) (by omega), li]
    have l40 := lg.lt hi
    show ∃ a', _ ∧ kX8_relabel_2 (F + 1) 33 (nI f) (nI g) (nI i) s = kX8_relabel_2 F 33 (nI f) (nI g) (nI (i + 1)) a'
    rw [kX8_relabel_2.eq_2, e40, if_neg (nI_ge hi (by decide)), f6, bind_s, bind_s, ai, bind_s, bind_s, ai, bind_s]
    unfold kX8_relabel_33
    have w : ∀ v : Int32, ast s 1 35 (nI i) v = some (saw s 35 (upd (s.ar 35) i v)) := fun v => ast_saw srS.1.2.1 (by rw [srS.2.1.2.1]; exact hi) (by omega)
    have nx : ∀ v : Nat, v = relb V lab f g i → (Sv σ (saw s 35 (upd (s.ar 35) i (nI v))) ∧ ∀ t, t < 40 → (saw s 35 (upd (s.ar 35) i (nI v))).ar 35 t = nI (if t < i + 1 then relb V lab f g t else lab t)) := fun v hv => ⟨j1.trans (Sv.saw ⟨by omega, by omega⟩), fun t ht => by
      rw [ar_saw]
      by_cases y : t = i
      · rw [y, upd_s, if_pos (by omega), hv]
      · rw [upd_n y, j2 t ht]
        by_cases u : t < i
        · rw [if_pos u, if_pos (by omega)]
        · rw [if_neg u, if_neg (by omega)]⟩
    by_cases z : lab i = f
    · have hi2 : hs V i := Classical.byContradiction fun y => by
        rw [lg.2 i y] at z
        exact y (z ▸ hf)
      rw [if_pos (by rw [z]), w, bind_s, nI_1]
      exact ⟨_, nx g (by unfold relb; rw [if_pos ⟨hi2, z⟩]), rfl⟩
    · rw [if_neg (fun y => z ((nI_eq (by omega) (by omega)).mp y)), w, bind_s, nI_1]
      exact ⟨_, nx (lab i) (by unfold relb; rw [if_neg (fun y => z y.2)]), rfl⟩
theorem c_join42 {r : Nat} (hr : r ≤ 99) {k31 : Nat → Int32 → Int32 → Int32 → Hp → Option (Int32 × Hp)} {a : Nat} (ha : a < 40) : ∀ (m F b : Nat) (lab : Nat → Nat) (s : Hp), m < F → b + m = 40 → a < b → Bv s S V π → Sr s → Lg V lab → Gc s lab → ∃ s', kX8_join_42 k31 F 33 (nI r) (nI (Fst V lab)) (nI a) (nI b) s = k31 33 (nI r) (nI (Fst V (gin V r a m b lab))) (nI (a + 1)) s' ∧ Sv s s' ∧ Gc s' (gin V r a m b lab) ∧ Lg V (gin V r a m b lab)
  | m, 0, _, _, _, h, _, _, _, _, _, _ => absurd h (Nat.not_lt_zero m)
  | 0, F + 1, b, lab, s, _, hb, _, _, _, lg, gc => by
    have : b = 40 := by omega
    subst this
    rw [kX8_join_42.eq_2, if_pos (by decide), nI_1]
    exact ⟨s, rfl, Sv.rfl, gc, lg⟩
  | m + 1, F + 1, b, lab, s, hF, hb, hab, h, sr, lg, gc => by
    have f6 : gfr s 18 806 33 = some 35 := by rw [gfr_ok h.1.1.1, sr.2.2.2.1]
    have al : ∀ t, t < 40 → ald s 1 35 (nI t) = some (nI (lab t)) := fun t ht => by rw [ald_ok sr.1.2.1 (by rw [sr.2.1.2.1]; exact ht) (by omega), gc t ht]
    have la := lg.lt ha
    have lb := lg.lt (show b < 40 by omega)
    have fl := far_le h.2.2 a b
    rw [kX8_join_42.eq_2, show (40 : Int32) = nI 40 from rfl, if_neg (nI_ge (by omega) (by omega)), h.1.k33, h.1.pr h.2.2 hab (by omega), bind_s, ite_bI]
    unfold kX8_join_109 gin
    have skip : ¬ (hs V a ∧ hs V b ∧ far V a b ≤ r ∧ lab a ≠ lab b) → ∃ s', kX8_join_42 k31 F 33 (nI r) (nI (Fst V lab)) (nI a) (nI b + 1) s = k31 33 (nI r) (nI (Fst V (gin V r a m (b + 1) (gst V r a b lab)))) (nI (a + 1)) s' ∧ Sv s s' ∧ Gc s' (gin V r a m (b + 1) (gst V r a b lab)) ∧ Lg V (gin V r a m (b + 1) (gst V r a b lab)) := fun z => by
      have : gst V r a b lab = lab := if_neg z
      rw [this, nI_1]
      exact c_join42 hr ha m F (b + 1) lab s (by omega) (by omega) (by omega) h sr lg gc
    by_cases q : hs V a ∧ hs V b
    · rw [if_pos q, h.1.f, bind_s, h.1.k19, h.1.of q.1 q.2, bind_s]
      by_cases y : r < far V a b
      · rw [if_pos (nI_lt y (by omega))]
        exact skip (fun z => by omega)
      · rw [if_neg (nI_nlt (by omega) (by omega)), f6, bind_s, al a ha, bind_s, bind_s, al b (by omega), bind_s]
        by_cases u : lab a = lab b
        · rw [if_pos (by rw [u])]
          exact skip (fun z => z.2.2.2 u)
        · rw [if_neg (fun v => u ((nI_eq (by omega) (by omega)).mp v)), bind_s, al b (by omega), bind_s, bind_s, al a ha, bind_s, h.1.k33]
          obtain ⟨s1, g1, g2, g3⟩ := c_relabel h sr (g := lab a) lg gc (lg.1 b q.2)
          have fm := Fst_merge q.1 q.2 u
          have e : gst V r a b lab = relb V lab (lab b) (lab a) := if_pos ⟨q.1, q.2, by omega, u⟩
          rw [g1, bind_s, fm, nI_dec (by omega), Nat.add_sub_cancel, nI_1, e]
          obtain ⟨s', k1, k2, k3, k4⟩ := c_join42 hr (k31 := k31) ha m F (b + 1) _ s1 (by omega) (by omega) (by omega) (h.sv g2) (sr.sv g2) (lg.re q.1) g3
          exact ⟨s', k1, g2.trans k2, k3, k4⟩
    · rw [if_neg q]
      exact skip (fun z => q ⟨z.1, z.2.1⟩)
theorem c_join31 {r : Nat} (hr : r ≤ 99) : ∀ (m F a : Nat) (lab : Nat → Nat) (s : Hp), m < F → a + m = 40 → Bv s S V π → Sr s → Lg V lab → Gc s lab → ∃ s', kX8_join_31 F 33 (nI r) (nI (Fst V lab)) (nI a) s = some (nI (Fst V (gou V r m a lab)), s') ∧ Sv s s' ∧ Gc s' (gou V r m a lab) ∧ Lg V (gou V r m a lab)
  | m, 0, _, _, _, h, _, _, _, _, _ => absurd h (Nat.not_lt_zero m)
  | 0, F + 1, a, lab, s, _, ha, _, _, lg, gc => by
    have : a = 40 := by omega
    subst this
    rw [kX8_join_31.eq_2, if_pos (by decide)]
    exact ⟨s, rfl, Sv.rfl, gc, lg⟩
  | m + 1, F + 1, a, lab, s, hF, ha, h, sr, lg, gc => by
    rw [kX8_join_31.eq_2, show (40 : Int32) = nI 40 from rfl, if_neg (nI_ge (by omega) (by omega)), nI_1]
    obtain ⟨s1, g1, g2, g3, g4⟩ := c_join42 (k31 := kX8_join_31 F) hr (show a < 40 by omega) (40 - (a + 1)) FU (a + 1) lab s (FU_gt (by omega)) (by omega) (by omega) h sr lg gc
    rw [g1]
    obtain ⟨s', k1, k2, k3, k4⟩ := c_join31 hr m F (a + 1) _ s1 (by omega) (by omega) (h.sv g2) (sr.sv g2) g4 g3
    exact ⟨s', k1, g2.trans k2, k3, k4⟩
/-- the labels in the end -/
def glab (V : Vt) (r : Nat) : Nat → Nat := gou V r 40 0 (fun t => t)
theorem c_join (h : Bv σ S V π) (sr : Sr σ) {r : Nat} (hr : r ≤ 99) : ∃ s', kX8_join σ 33 (nI r) = some (nI (Fst V (glab V r)), s') ∧ Sv σ s' ∧ Gc s' (glab V r) ∧ Lg V (glab V r) := by
  have e40 : (40 : Int32) = nI 40 := rfl
  unfold kX8_join
  rw [h.1.s, bind_s, h.1.n, bind_s]
  have lo := lp 40 (fun F i (s : Hp) => kX8_join_10 F 33 (nI r) (nI (cn V)) (nI i) s) (fun i s => Sv σ s ∧ ∀ t, t < i → s.ar 35 t = nI t) (fun x => ∃ s, x = kX8_join_31 FU 33 (nI r) (nI (cn V)) 0 s ∧ Sv σ s ∧ ∀ t, t < 40 → s.ar 35 t = nI t) (fun F s J => ?_) (fun F i s hi J => Or.inl ?_) 40 0 FU σ FU_gt rfl ⟨Sv.rfl, fun t ht => absurd ht (Nat.not_lt_zero _)⟩
  · obtain ⟨s, g1, g2, g3⟩ := lo
    rw [show (0 : Int32) = nI 0 from rfl, g1, ← Fst_id]
    obtain ⟨s', k1, k2, k3, k4⟩ := c_join31 hr 40 FU 0 (fun t => t) s FU_gt rfl (h.sv g2) (sr.sv g2) ⟨fun t ht => ht, fun _ _ => rfl⟩ g3
    exact ⟨s', k1, g2.trans k2, k3, k4⟩
  · refine ⟨s, ?_, J⟩
    show kX8_join_10 (F + 1) 33 (nI r) (nI (cn V)) (nI 40) s = _
    rw [kX8_join_10.eq_2, if_pos (by decide)]
  · obtain ⟨j1, j2⟩ := J
    have hS := h.sv j1
    have srS := sr.sv j1
    have f6 : gfr s 18 806 33 = some 35 := by rw [gfr_ok hS.1.1.1, srS.2.2.2.1]
    show ∃ a', _ ∧ kX8_join_10 (F + 1) 33 (nI r) (nI (cn V)) (nI i) s = _
    rw [kX8_join_10.eq_2, e40, if_neg (nI_ge hi (by decide)), f6, bind_s, ast_saw srS.1.2.1 (by rw [srS.2.1.2.1]; exact hi) (by omega), bind_s, nI_1]
    refine ⟨_, ⟨j1.trans (Sv.saw ⟨by omega, by omega⟩), fun t ht => ?_⟩, rfl⟩
    rw [ar_saw]
    by_cases y : t = i
    · rw [y, upd_s]
    · rw [upd_n y]; exact j2 t (by omega)
/-- the reference's labels -/
def Gr (T : MS) (V : Vt) (lab : Nat → Nat) : Prop := ∀ t, t < 40 → T.1 24 t = if hs V t then nI (lab t) else -1
theorem r_grp106 {k35 : Int32 → Int32 → MS → Option MS} {k45 : Int32 → Int32 → Int32 → MS → Option MS} {x1 x3 : Int32} {lab : Nat → Nat} {a f : Nat} (lg : Lg V lab) (ha : hs V a) (hf : hs V f) (hne : lab a ≠ f) : ∀ (m F i : Nat) (T : MS), m < F → i + m = 40 → (∀ t, t < 40 → T.1 24 t = if hs V t then nI (if t < i then relb V lab f (lab a) t else lab t) else -1) → ∃ T', r_layGroups_106 k35 k45 F x1 (nI a) x3 (nI f) (nI i) T = k45 x1 (nI a) (x3 + 1) T' ∧ Rk T T' ∧ Gr T' V (relb V lab f (lab a))
  | m, 0, _, _, h, _, _ => absurd h (Nat.not_lt_zero m)
  | 0, F + 1, i, T, _, hi, hg => by
    have : i = 40 := by omega
    subst this
    rw [r_layGroups_106.eq_2, if_pos (by decide)]
    exact ⟨T, rfl, Rk.rfl, fun t ht => by rw [hg t ht, if_pos ht]⟩
  | m + 1, F + 1, i, T, hF, hi, hg => by
    have a40 := ha.1
    have f40 := hf.1
    have hi40 : i < 40 := by omega
    have li := lg.lt hi40
    have ra : relb V lab f (lab a) a = lab a := if_neg (fun y => hne y.2)
    have rda : rd T 24 (nI a) = some (nI (lab a)) := by
      rw [rd_ok (show a < m_len 24 by rw [len24]; omega) (by omega), hg a a40, if_pos ha]
      by_cases q : a < i
      · rw [if_pos q, ra]
      · rw [if_neg q]
    have rdi : rd T 24 (nI i) = some (if hs V i then nI (lab i) else -1) := by rw [rd_ok (show i < m_len 24 by rw [len24]; omega) (by omega), hg i hi40, if_neg (Nat.lt_irrefl i)]
    have ext : ∀ t, t ≠ i → (if t < i then relb V lab f (lab a) t else lab t) = (if t < i + 1 then relb V lab f (lab a) t else lab t) := fun t ht => by
      by_cases y : t < i
      · rw [if_pos y, if_pos (by omega)]
      · rw [if_neg y, if_neg (by omega)]
    have same : relb V lab f (lab a) i = lab i ∨ ¬ hs V i → ∀ t, t < 40 → T.1 24 t = if hs V t then nI (if t < i + 1 then relb V lab f (lab a) t else lab t) else -1 := fun e t ht => by
      rw [hg t ht]
      by_cases y : t = i
      · rw [y, if_neg (Nat.lt_irrefl i), if_pos (show i < i + 1 by omega)]
        rcases e with e | e
        · rw [e]
        · rw [if_neg e, if_neg e]
      · rw [ext t y]
    rw [r_layGroups_106.eq_2, show (40 : Int32) = nI 40 from rfl, if_neg (nI_ge hi40 (by omega)), rdi, bind_s]
    unfold r_layGroups_138
    by_cases q : hs V i
    · rw [if_pos q]
      by_cases z : lab i = f
      · rw [if_pos (by rw [z]), rda, bind_s, wr_ok (show i < m_len 24 by rw [len24]; omega) (by omega), bind_s, nI_1]
        obtain ⟨T', k1, k2, k3⟩ := r_grp106 (k35 := k35) (k45 := k45) (x1 := x1) (x3 := x3) lg ha hf hne m F (i + 1) (up2 T.1 24 i (nI (lab a)), T.2) (by omega) (by omega) (fun t ht => by
          show up2 T.1 24 i (nI (lab a)) 24 t = _
          by_cases y : t = i
          · rw [y, up2_s, if_pos q, if_pos (by omega)]
            unfold relb
            rw [if_pos ⟨q, z⟩]
          · rw [up2_i y, hg t ht, ext t y])
        exact ⟨T', k1, (Rk.wr (by omega)).trans k2, k3⟩
      · rw [if_neg (fun y => z ((nI_eq (by omega) (by omega)).mp y)), nI_1]
        exact r_grp106 lg ha hf hne m F (i + 1) T (by omega) (by omega) (same (Or.inl (if_neg (fun y => z y.2))))
    · rw [if_neg q, if_neg (fun y => (nI_m1 (by omega)).mp y.symm), nI_1]
      exact r_grp106 lg ha hf hne m F (i + 1) T (by omega) (by omega) (same (Or.inr q))
theorem r_grp45 {r : Nat} (hr : r ≤ 99) {k35 : Int32 → Int32 → MS → Option MS} {a : Nat} (ha : a < 40) : ∀ (m F b : Nat) (lab : Nat → Nat) (T : MS), m < F → b + m = 40 → a < b → Bv σ T V π → Lg V lab → Gr T V lab → ∃ T', r_layGroups_45 k35 F (nI r) (nI a) (nI b) T = k35 (nI r) (nI (a + 1)) T' ∧ Rk T T' ∧ Gr T' V (gin V r a m b lab) ∧ Lg V (gin V r a m b lab)
  | m, 0, _, _, _, h, _, _, _, _, _ => absurd h (Nat.not_lt_zero m)
  | 0, F + 1, b, lab, T, _, hb, _, _, lg, gr => by
    have : b = 40 := by omega
    subst this
    rw [r_layGroups_45.eq_2, if_pos (by decide), nI_1]
    exact ⟨T, rfl, Rk.rfl, gr, lg⟩
  | m + 1, F + 1, b, lab, T, hF, hb, hab, h, lg, gr => by
    have b40 : b < 40 := by omega
    have la := lg.lt ha
    have lb := lg.lt b40
    have fl := far_le h.2.2 a b
    rw [r_layGroups_45.eq_2, show (40 : Int32) = nI 40 from rfl, if_neg (nI_ge b40 (by omega)), h.r (show a < 2 ^ 31 by omega), bind_s, ite_bI, h.r (show b < 2 ^ 31 by omega), bind_s, ite_bI]
    unfold gin
    have skip : ∀ U, Rk T U → ¬ (hs V a ∧ hs V b ∧ far V a b ≤ r ∧ lab a ≠ lab b) → (U.1 24 = T.1 24) → ∃ T', r_layGroups_144 k35 (r_layGroups_45 k35 F) (nI r) (nI a) (nI b) U = k35 (nI r) (nI (a + 1)) T' ∧ Rk T T' ∧ Gr T' V (gin V r a m (b + 1) (gst V r a b lab)) ∧ Lg V (gin V r a m (b + 1) (gst V r a b lab)) := fun U rk z e24 => by
      have : gst V r a b lab = lab := if_neg z
      unfold r_layGroups_144
      rw [this, nI_1]
      obtain ⟨T', k1, k2, k3⟩ := r_grp45 hr (k35 := k35) ha m F (b + 1) lab U (by omega) (by omega) (by omega) (h.rk rk) lg (fun t ht => by rw [e24]; exact gr t ht)
      exact ⟨T', k1, rk.trans k2, k3⟩
    by_cases q1 : hs V a
    · rw [if_pos q1]
      by_cases q2 : hs V b
      · obtain ⟨T1, g1, g2⟩ := h.fa q1 q2
        have e24 : T1.1 24 = T.1 24 := g2.r (by decide) (by decide)
        have rd24 : ∀ t, t < 40 → hs V t → rd T1 24 (nI t) = some (nI (lab t)) := fun t ht hst => by rw [rd_ok (show t < m_len 24 by rw [len24]; omega) (by omega), e24, gr t ht, if_pos hst]
        rw [if_pos q2, g1, bd2_s]
        by_cases y : r < far V a b
        · rw [if_pos (nI_lt y (by omega))]
          exact skip T1 g2.rk (fun z => by omega) e24
        · rw [if_neg (nI_nlt (by omega) (by omega)), rd24 a ha q1, bind_s, rd24 b b40 q2, bind_s]
          by_cases u : lab a = lab b
          · rw [if_pos (by rw [u])]
            exact skip T1 g2.rk (fun z => z.2.2.2 u) e24
          · rw [if_neg (fun v => u ((nI_eq (by omega) (by omega)).mp v)), bind_s]
            have e : gst V r a b lab = relb V lab (lab b) (lab a) := if_pos ⟨q1, q2, by omega, u⟩
            obtain ⟨T2, k1, k2, k3⟩ := r_grp106 (k35 := k35) (k45 := r_layGroups_45 k35 F) (x1 := nI r) (x3 := nI b) lg q1 (lg.1 b q2) u 40 FU 0 T1 FU_gt rfl (fun t ht => by rw [e24, gr t ht, if_neg (Nat.not_lt_zero _)])
            rw [show (0 : Int32) = nI 0 from rfl, k1, nI_1, e]
            obtain ⟨T', m1, m2, m3⟩ := r_grp45 hr (k35 := k35) ha m F (b + 1) _ T2 (by omega) (by omega) (by omega) (h.rk (g2.rk.trans k2)) (lg.re q1) k3
            exact ⟨T', m1, (g2.rk.trans k2).trans m2, m3⟩
      · rw [if_neg q2]
        exact skip T Rk.rfl (fun z => q2 z.2.1) rfl
    · rw [if_neg q1]
      exact skip T Rk.rfl (fun z => q1 z.1) rfl
theorem r_grp35 {r : Nat} (hr : r ≤ 99) : ∀ (m F a : Nat) (lab : Nat → Nat) (T : MS), m < F → a + m = 40 → Bv σ T V π → Lg V lab → Gr T V lab → ∃ T', r_layGroups_35 F (nI r) (nI a) T = some T' ∧ Rk T T' ∧ Gr T' V (gou V r m a lab)
  | m, 0, _, _, _, h, _, _, _, _ => absurd h (Nat.not_lt_zero m)
  | 0, F + 1, a, lab, T, _, ha, _, lg, gr => by
    have : a = 40 := by omega
    subst this
    rw [r_layGroups_35.eq_2, if_pos (by decide)]
    exact ⟨T, rfl, Rk.rfl, gr⟩
  | m + 1, F + 1, a, lab, T, hF, ha, h, lg, gr => by
    rw [r_layGroups_35.eq_2, show (40 : Int32) = nI 40 from rfl, if_neg (nI_ge (by omega) (by omega)), nI_1]
    obtain ⟨T1, g1, g2, g3, g4⟩ := r_grp45 (k35 := r_layGroups_35 F) hr (show a < 40 by omega) (40 - (a + 1)) FU (a + 1) lab T (FU_gt (by omega)) (by omega) (by omega) h lg gr
    rw [g1]
    obtain ⟨T', k1, k2, k3⟩ := r_grp35 hr m F (a + 1) _ T1 (by omega) (by omega) (h.rk g2) g4 g3
    exact ⟨T', k1, g2.trans k2, k3⟩
theorem r_layGroups_eq (h : Bv σ S V π) {r : Nat} (hr : r ≤ 99) : ∃ T', r_layGroups S (nI r) = some T' ∧ Rk S T' ∧ Gr T' V (glab V r) := by
  have e40 : (40 : Int32) = nI 40 := rfl
  unfold r_layGroups
  have lo := lp 40 (fun F i (T : MS) => r_layGroups_2 F (nI r) (nI i) T) (fun i T => Rk S T ∧ ∀ t, t < i → T.1 24 t = if hs V t then nI t else -1) (fun x => ∃ T, x = r_layGroups_35 FU (nI r) 0 T ∧ Rk S T ∧ ∀ t, t < 40 → T.1 24 t = if hs V t then nI t else -1) (fun F T J => ?_) (fun F i T hi J => Or.inl ?_) 40 0 FU S FU_gt rfl ⟨Rk.rfl, fun t ht => absurd ht (Nat.not_lt_zero _)⟩
  · obtain ⟨T, g1, g2, g3⟩ := lo
    rw [show (0 : Int32) = nI 0 from rfl, g1]
    obtain ⟨T', k1, k2, k3⟩ := r_grp35 hr 40 FU 0 (fun t => t) T FU_gt rfl (h.rk g2) ⟨fun t ht => ht, fun _ _ => rfl⟩ g3
    exact ⟨T', k1, g2.trans k2, k3⟩
  · refine ⟨T, ?_, J⟩
    show r_layGroups_2 (F + 1) (nI r) (nI 40) T = _
    rw [r_layGroups_2.eq_2, if_pos (by decide)]
  · obtain ⟨j1, j2⟩ := J
    show ∃ a', _ ∧ r_layGroups_2 (F + 1) (nI r) (nI i) T = _
    rw [r_layGroups_2.eq_2, e40, if_neg (nI_ge hi (by decide)), (h.rk j1).r (show i < 2 ^ 31 by omega), bind_s, ite_bI]
    unfold r_layGroups_26
    have w : ∀ v : Int32, wr T 24 (nI i) v = some (up2 T.1 24 i v, T.2) := fun v => wr_ok (show i < m_len 24 by rw [len24]; omega) (by omega)
    have nx : ∀ v : Int32, v = (if hs V i then nI i else -1) → (Rk S (up2 T.1 24 i v, T.2) ∧ ∀ t, t < i + 1 → up2 T.1 24 i v 24 t = if hs V t then nI t else -1) := fun v hv => ⟨j1.trans (Rk.wr (by omega)), fun t ht => by
      by_cases z : t = i
      · rw [z, up2_s, hv]
      · rw [up2_i z]; exact j2 t (by omega)⟩
    by_cases q : hs V i
    · rw [if_pos q, w, bind_s, nI_1]
      exact ⟨_, nx (nI i) (by rw [if_pos q]), rfl⟩
    · rw [if_neg q, w, bind_s, nI_1]
      exact ⟨_, nx (-1) (by rw [if_neg q]), rfl⟩
end GRP
