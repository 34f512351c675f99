-- the distances that are kept: they follow a state
def Dg (σ σ' : Hp) : Prop := (σ'.kd = σ.kd ∧ σ'.ln = σ.ln ∧ σ'.rr = σ.rr ∧ σ'.nx = σ.nx ∧ σ'.us = σ.us) ∧ ∀ x, x < 14 ∨ 22 < x → (∀ i, σ'.fi i x = σ.fi i x) ∧ (∀ i, σ'.fr i x = σ.fr i x) ∧ σ'.ar x = σ.ar x
def Fk (σ : Hp) : Prop := (σ.kd 19 = 11 ∧ σ.kd 20 = 1 ∧ σ.kd 21 = 1 ∧ σ.kd 22 = 1) ∧ (σ.ln 20 = 1600 ∧ σ.ln 21 = 40 ∧ σ.ln 22 = 16) ∧ (σ.fr 100 19 = 14 ∧ σ.fr 101 19 = 20 ∧ σ.fr 102 19 = 21 ∧ σ.fr 104 19 = 22)
def Fz (σ : Hp) (V : Vt) : Prop := Fk σ ∧ (σ.fi 103 19 = nI V.M ∧ σ.fi 105 19 = nI V.T.length) ∧ (∀ t, t < 40 → σ.ar 21 t = nI (V.W t)) ∧ (∀ (k : Nat) (e : Ent), V.T[k]? = some e → σ.ar 22 k = nI (e.1 * 40 + e.2.1)) ∧ (∀ a b, hs V a → hs V b → σ.ar 20 (a * 40 + b) = nI (far V a b))
section FOL
variable {σ σ1 σ2 : Hp} {V V0 : Vt}
theorem Dg.rfl : Dg σ σ := ⟨⟨Eq.refl _, Eq.refl _, Eq.refl _, Eq.refl _, Eq.refl _⟩, fun _ _ => ⟨fun _ => Eq.refl _, fun _ => Eq.refl _, Eq.refl _⟩⟩
theorem Dg.tr (h : Dg σ σ1) (g : Dg σ1 σ2) : Dg σ σ2 := by
  obtain ⟨⟨a1, a2, a3, a4, a5⟩, a6⟩ := h
  obtain ⟨⟨b1, b2, b3, b4, b5⟩, b6⟩ := g
  exact ⟨⟨b1.trans a1, b2.trans a2, b3.trans a3, b4.trans a4, b5.trans a5⟩, fun x hx => ⟨fun i => ((b6 x hx).1 i).trans ((a6 x hx).1 i), fun i => ((b6 x hx).2.1 i).trans ((a6 x hx).2.1 i), (b6 x hx).2.2.trans (a6 x hx).2.2⟩⟩
theorem Dg.dn (h : Dn (fun x => 14 ≤ x ∧ x ≤ 22) σ σ1) : Dg σ σ1 := ⟨⟨h.1.1, h.1.2.1, h.1.2.2.2.1, h.1.2.2.2.2.1, h.1.2.2.2.2.2⟩, fun x hx => ⟨(h.2 x (by omega)).1, fun i => by rw [h.1.2.2.1], (h.2 x (by omega)).2⟩⟩
theorem Dg.mr (h : Mr σ σ1) : Dg σ σ1 := ⟨⟨h.1.1, h.1.2.1, h.1.2.2.2.1, h.1.2.2.2.2.1, h.1.2.2.2.2.2⟩, fun x hx => ⟨fun i => by rw [h.1.2.2.1], fun i => h.2.2 i x (by omega), h.2.1 x (by omega)⟩⟩
theorem Dg.df (h : Dg σ σ1) : Df (fun x => 14 ≤ x ∧ x ≤ 22) σ σ1 := ⟨by rw [h.1.2.2.2.1]; exact Nat.le_refl _, fun a _ => by rw [h.1.1, h.1.2.1]; exact ⟨Eq.refl _, Eq.refl _⟩, fun a _ hA => by
  have := h.2 a (by omega)
  exact ⟨this.1, this.2.1, this.2.2, by rw [h.1.2.2.1]⟩⟩
theorem Fk.dn {A : Nat → Prop} (h : Fk σ) (d : Dn A σ σ1) : Fk σ1 := by
  unfold Fk at *
  rw [d.1.1, d.1.2.1, d.1.2.2.1]
  exact h
theorem Fk.mr (h : Fk σ) (d : Mr σ σ1) : Fk σ1 := by
  unfold Fk at *
  rw [d.1.1, d.1.2.1, d.2.2 100 19 (by omega), d.2.2 101 19 (by omega), d.2.2 102 19 (by omega), d.2.2 104 19 (by omega)]
  exact h
theorem Fk.c (h : Fk σ) : gfr σ 11 101 19 = some 20 := by rw [gfr_ok h.1.1, h.2.2.2.1]
theorem Fk.w (h : Fk σ) : gfr σ 11 102 19 = some 21 := by rw [gfr_ok h.1.1, h.2.2.2.2.1]
theorem Fk.t (h : Fk σ) : gfr σ 11 104 19 = some 22 := by rw [gfr_ok h.1.1, h.2.2.2.2.2]
theorem Fk.m (h : Fk σ) : gfr σ 11 100 19 = some 14 := by rw [gfr_ok h.1.1, h.2.2.1]
theorem Fk.set (h : Fk σ) {k : Nat} {v : Int32} (hk : k < 1600) : ast σ 1 20 (nI k) v = some (saw σ 20 (upd (σ.ar 20) k v)) := ast_saw h.1.2.1 (by rw [h.2.1.1]; exact hk) (by omega)
theorem Fk.get (h : Fk σ) {k : Nat} (hk : k < 1600) : ald σ 1 20 (nI k) = some (σ.ar 20 k) := ald_ok h.1.2.1 (by rw [h.2.1.1]; exact hk) (by omega)
theorem Fk.gw (h : Fk σ) {k : Nat} (hk : k < 40) : ald σ 1 21 (nI k) = some (σ.ar 21 k) := ald_ok h.1.2.2.1 (by rw [h.2.1.2.1]; exact hk) (by omega)
theorem Fk.gt (h : Fk σ) {k : Nat} (hk : k < 16) : ald σ 1 22 (nI k) = some (σ.ar 22 k) := ald_ok h.1.2.2.2 (by rw [h.2.1.2.2]; exact hk) (by omega)
/-- the row of distances alone is written -/
def Dc (σ σ1 : Hp) : Prop := Dn (fun x => x = 20) σ σ1
theorem Dc.up {k : Nat} {v : Int32} : Dc σ (saw σ 20 (upd (σ.ar 20) k v)) := Dn.xa (Eq.refl 20)
theorem Dc.r (h : Dc σ σ1) {x : Nat} (hx : x ≠ 20) : σ1.ar x = σ.ar x := (h.2 x hx).2
theorem Dc.i (h : Dc σ σ1) : σ1.fi 103 19 = σ.fi 103 19 ∧ σ1.fi 105 19 = σ.fi 105 19 := ⟨(h.2 19 (by decide)).1 _, (h.2 19 (by decide)).1 _⟩
theorem ix_inj {a b c d : Nat} (hb : b < 40) (hd : d < 40) (h : a * 40 + b = c * 40 + d) : a = c ∧ b = d := by omega
/-- cells hold what they should, or nothing -/
def Cu (c : Nat → Int32) (W : Nat → Nat) (M : Nat) : Prop := ∀ a b, a < 40 → b < 40 → W a ≠ 0 → W b ≠ 0 → c (a * 40 + b) = -1 ∨ c (a * 40 + b) = nI (apart M (W a) (W b))
theorem c_follow2 (fv : Fz σ V0) (hv : Vw V0) (hM : σ.fi 706 3 = nI V.M) (k3 : σ.kd 3 = 17) (vM : V.M < 4) : ∃ s, kX1_follow σ 19 3 = kX1_follow_55 19 3 s ∧ Dn (fun x => x = 19 ∨ x = 20) σ s ∧ s.fi 103 19 = nI V.M ∧ Cu (s.ar 20) V0.W V.M := by
  obtain ⟨fk, ⟨f1, f2⟩, f3, f4, f5⟩ := fv
  have e0 : (0 : Int32) = nI 0 := rfl
  have l16 := hv.2.2.2.1
  unfold kX1_follow
  have lo := lp V0.T.length (fun F n (s : Hp) => kX1_follow_2 F 19 3 (nI n) s) (fun n s => Dc σ s ∧ ∀ a b, hs V0 a → hs V0 b → s.ar 20 (a * 40 + b) = -1 ∨ s.ar 20 (a * 40 + b) = nI (apart V0.M (V0.W a) (V0.W b)) ∨ ∃ (m : Nat) (e : Ent), n ≤ m ∧ V0.T[m]? = some e ∧ e.1 = a ∧ e.2.1 = b) (fun r => ∃ s F, r = kX1_follow_2 (F + 1) 19 3 (nI V0.T.length) s ∧ Dc σ s ∧ Cu (s.ar 20) V0.W V0.M) (fun F s J => ?_) (fun F n s hn J => Or.inl ?_) V0.T.length 0 FU σ (FU_gt (by omega)) (by omega) ⟨Dn.rfl, fun a b ha hb => ?_⟩
  · obtain ⟨s, F, g1, g2, g3⟩ := lo
    rw [e0, g1]
    have fk1 := fk.dn g2
    have i1 := g2.i
    have m3 : s.fi 706 3 = nI V.M := by rw [(g2.2 3 (by decide)).1]; exact hM
    have vM0 := hv.2.1
    rw [kX1_follow_2.eq_2, gfi_ok fk1.1.1, i1.2, f2, bind_s, if_pos (nI_le (Nat.le_refl _) (by omega)), gfi_ok fk1.1.1, i1.1, f1, bind_s, gfi_ok (show s.kd 3 = 17 by rw [g2.1.1]; exact k3), m3, bind_s]
    by_cases z : V0.M = V.M
    · rw [if_pos (by rw [z])]
      refine ⟨s, rfl, g2.mono (fun x q => Or.inr q), by rw [i1.1, f1, z], ?_⟩
      rw [← z]; exact g3
    · rw [if_neg (fun y => z ((nI_eq (by omega) (by omega)).mp y)), fk1.c, bind_s]
      unfold kJ7_fill_53178
      rw [aln_ok (Or.inl fk1.1.2.1), bind_s, fk1.2.1.1]
      have fl := lp 1600 (fun F k (u : Hp) => kJ7_fill_53178_5 F 20 (-1) (nI k) (nI 1600) u) (fun k u => Dc s u ∧ ∀ j, j < k → u.ar 20 j = -1) (fun r => ∃ u, r = some u ∧ Dc s u ∧ ∀ j, j < 1600 → u.ar 20 j = -1) (fun F u J => ?_) (fun F k u hk J => Or.inl ?_) 1600 0 FU s (FU_gt (by omega)) rfl ⟨Dn.rfl, fun j hj => absurd hj (Nat.not_lt_zero _)⟩
      · obtain ⟨u, u1, u2, u3⟩ := fl
        have fk2 := fk1.dn u2
        rw [e0, u1, bind_s, gfi_ok (show u.kd 3 = 17 by rw [u2.1.1, g2.1.1]; exact k3), (u2.2 3 (by decide)).1, m3, bind_s, pfi_ok fk2.1.1, bind_s]
        refine ⟨_, rfl, ((g2.mono (fun x q => Or.inr q)).trans u2 (fun x q => Or.inr q)).xi' (Or.inl rfl), by rw [fi_sfi, if_pos ⟨rfl, rfl⟩], fun a b ha hb _ _ => Or.inl ?_⟩
        rw [ar_sfi]
        exact u3 _ (by omega)
      · refine ⟨u, ?_, J.1, J.2⟩
        show kJ7_fill_53178_5 (F + 1) 20 (-1) (nI 1600) (nI 1600) u = _
        rw [kJ7_fill_53178_5.eq_2, if_pos (nI_le (Nat.le_refl _) (by omega))]
      · have fku := fk1.dn J.1
        show ∃ a', _ ∧ kJ7_fill_53178_5 (F + 1) 20 (-1) (nI k) (nI 1600) u = _
        rw [kJ7_fill_53178_5.eq_2, if_neg (nI_ge hk (by omega)), fku.set hk, bind_s, nI_1]
        refine ⟨_, ⟨J.1.tr Dc.up, fun j hj => ?_⟩, rfl⟩
        rw [ar_saw]
        by_cases y : j = k
        · rw [y]; exact upd_s
        · rw [upd_n y]; exact J.2 j (by omega)
  · refine ⟨s, F, rfl, J.1, fun a b ha hb ka kb => ?_⟩
    rcases J.2 a b ⟨ha, ka⟩ ⟨hb, kb⟩ with q | q | ⟨m, e, q1, q2, -⟩
    · exact Or.inl q
    · exact Or.inr q
    · have := get_lt q2
      omega
  · obtain ⟨e, he⟩ : ∃ e, V0.T[n]? = some e := ⟨_, List.getElem?_eq_getElem hn⟩
    obtain ⟨m1, m2, m3, m4⟩ := hv.2.2.2.2.1 e (List.mem_of_getElem? he)
    have m1 := m1.1
    have m2 := m2.1
    have fk1 := fk.dn J.1
    show ∃ a', _ ∧ kX1_follow_2 (F + 1) 19 3 (nI n) s = _
    rw [kX1_follow_2.eq_2, gfi_ok fk1.1.1, J.1.i.2, f2, bind_s, if_neg (nI_ge hn (by omega)), fk1.c, bind_s, fk1.t, bind_s, fk1.gt (by omega), bind_s, J.1.r (by decide), f4 n e he, fk1.set (by omega), bind_s, nI_1]
    refine ⟨_, ⟨J.1.tr Dc.up, fun a b ha hb => ?_⟩, rfl⟩
    rw [ar_saw]
    by_cases z : a = e.1 ∧ b = e.2.1
    · rw [z.1, z.2]; exact Or.inl upd_s
    · rw [upd_n (fun y => z (ix_inj hb.1 m2 y))]
      rcases J.2 a b ha hb with q | q | ⟨m, e2, q1, q2, q3, q4⟩
      · exact Or.inl q
      · exact Or.inr (Or.inl q)
      · refine Or.inr (Or.inr ⟨m, e2, ?_, q2, q3, q4⟩)
        have : m ≠ n := fun y => by
          subst y
          rw [he] at q2
          cases q2
          exact z ⟨q3.symm, q4.symm⟩
        omega
  · rw [f5 a b ha hb]
    unfold far
    have t := tl_tp V0.T a b
    cases q : tp V0.T a b with
    | none =>
      rw [q] at t
      rw [t.1]
      exact Or.inr (Or.inl rfl)
    | some k =>
      rw [q] at t
      obtain ⟨e, g1, g2, g3, g4⟩ := t
      exact Or.inr (Or.inr ⟨k, e, Nat.zero_le _, g1, g2, g3⟩)
/-- words anew -/
theorem c_follow57 (fk : Fk σ) (k3 : σ.kd 3 = 17) (k4 : σ.kd 4 = 1) (l4 : σ.ln 4 = 40) (f700 : σ.fr 700 3 = 4) (hW : ∀ t, t < 40 → σ.ar 4 t = nI (V.W t)) (hv : ∀ t, t < 40 → V.W t = 0 ∨ isW (V.W t)) (hw0 : ∀ t, t < 40 → V0.W t = 0 ∨ isW (V0.W t)) (f3 : ∀ t, t < 40 → σ.ar 21 t = nI (V0.W t)) (cu : Cu (σ.ar 20) V0.W V.M) : ∃ s F, kX1_follow_55 19 3 σ = kX1_follow_57 (F + 1) 19 3 (nI 40) s ∧ Dn (fun x => x = 20 ∨ x = 21) σ s ∧ (∀ t, t < 40 → s.ar 21 t = nI (V.W t)) ∧ Cu (s.ar 20) V.W V.M := by
  have e0 : (0 : Int32) = nI 0 := rfl
  unfold kX1_follow_55
  rw [e0]
  refine lp 40 (fun F t (s : Hp) => kX1_follow_57 F 19 3 (nI t) s) (fun t s => Dn (fun x => x = 20 ∨ x = 21) σ s ∧ (∀ x, x < 40 → s.ar 21 x = nI (if x < t then V.W x else V0.W x)) ∧ Cu (s.ar 20) (fun x => if x < t then V.W x else V0.W x) V.M) (fun r => ∃ s F, r = kX1_follow_57 (F + 1) 19 3 (nI 40) s ∧ Dn (fun x => x = 20 ∨ x = 21) σ s ∧ (∀ t, t < 40 → s.ar 21 t = nI (V.W t)) ∧ Cu (s.ar 20) V.W V.M) (fun F s J => ?_) (fun F t s ht J => Or.inl ?_) 40 0 FU σ (FU_gt (by omega)) rfl ⟨Dn.rfl, fun x hx => by rw [if_neg (Nat.not_lt_zero _)]; exact f3 x hx, fun a b ha hb ka kb => ?_⟩
  · refine ⟨s, F, rfl, J.1, fun x hx => by rw [J.2.1 x hx, if_pos hx], fun a b ha hb ka kb => ?_⟩
    have := J.2.2 a b ha hb (by show (if a < 40 then _ else _) ≠ 0; rw [if_pos ha]; exact ka) (by show (if b < 40 then _ else _) ≠ 0; rw [if_pos hb]; exact kb)
    simp only [if_pos ha, if_pos hb] at this
    exact this
  · obtain ⟨j1, j2, j3⟩ := J
    have fk1 := fk.dn j1
    have w31 := isW_31 (hv t ht)
    have w32 := isW_31 (hw0 t ht)
    have kw : ∀ u : Hp, Dn (fun x => x = 20 ∨ x = 21) σ u → gfr u 17 700 3 = some 4 ∧ ald u 1 4 (nI t) = some (nI (V.W t)) := fun u d => ⟨by rw [gfr_ok (show u.kd 3 = 17 by rw [d.1.1]; exact k3), d.1.2.2.1, f700], by rw [ald_ok (show u.kd 4 = 1 by rw [d.1.1]; exact k4) (by rw [d.1.2.1, l4]; exact ht) (by omega), (d.2 4 (by omega)).2, hW t ht]⟩
    show ∃ a', _ ∧ kX1_follow_57 (F + 1) 19 3 (nI t) s = _
    rw [kX1_follow_57.eq_2, show (40 : Int32) = nI 40 from rfl, if_neg (nI_ge ht (by omega)), fk1.w, bind_s, fk1.gw ht, bind_s, (kw s j1).1, bind_s, (kw s j1).2, bind_s, j2 t ht, if_neg (Nat.lt_irrefl t)]
    unfold kX1_follow_95
    have wx : ∀ x, x ≠ t → (if x < t + 1 then V.W x else V0.W x) = (if x < t then V.W x else V0.W x) := fun x hx => by
      by_cases z : x < t
      · rw [if_pos z, if_pos (by omega)]
      · rw [if_neg z, if_neg (by omega)]
    by_cases z : V0.W t = V.W t
    · rw [if_pos (by rw [z]), nI_1]
      have we : (fun x => if x < t + 1 then V.W x else V0.W x) = (fun x => if x < t then V.W x else V0.W x) := funext fun x => by
        by_cases y : x = t
        · rw [y, if_pos (by omega), if_neg (Nat.lt_irrefl _), z]
        · exact wx x y
      refine ⟨s, ⟨j1, fun x hx => ?_, by rw [we]; exact j3⟩, rfl⟩
      rw [j2 x hx]
      exact congrArg nI (congrFun we x).symm
    · rw [if_neg (fun y => z ((nI_eq w32 w31).mp y)), ckd_ok fk1.1.1]
      unfold kX1_unlearn
      have un := lp 40 (fun F o (u : Hp) => kX1_unlearn_2 F 19 (nI t) (nI o) u) (fun o u => Dc s u ∧ (∀ x, x < o → u.ar 20 (t * 40 + x) = -1 ∧ u.ar 20 (x * 40 + t) = -1) ∧ ∀ a b, a < 40 → b < 40 → u.ar 20 (a * 40 + b) = -1 ∨ u.ar 20 (a * 40 + b) = s.ar 20 (a * 40 + b)) (fun r => ∃ u, r = some u ∧ Dc s u ∧ (∀ x, x < 40 → u.ar 20 (t * 40 + x) = -1 ∧ u.ar 20 (x * 40 + t) = -1) ∧ ∀ a b, a < 40 → b < 40 → u.ar 20 (a * 40 + b) = -1 ∨ u.ar 20 (a * 40 + b) = s.ar 20 (a * 40 + b)) (fun F u J => ?_) (fun F o u ho J => Or.inl ?_) 40 0 FU s (FU_gt (by omega)) rfl ⟨Dn.rfl, fun x hx => absurd hx (Nat.not_lt_zero _), fun _ _ _ _ => Or.inr rfl⟩
      · obtain ⟨u, u1, u2, u3, u4⟩ := un
        have du : Dn (fun x => x = 20 ∨ x = 21) σ u := j1.trans u2 (fun x q => Or.inl q)
        have fk2 := fk.dn du
        rw [e0, u1, bind_s, fk2.w, bind_s, (kw u du).1, bind_s, (kw u du).2, bind_s, ast_saw fk2.1.2.2.1 (by rw [fk2.2.1.2.1]; exact ht) (by omega), bind_s, nI_1]
        refine ⟨_, ⟨du.xa' (Or.inr rfl), fun x hx => ?_, fun a b ha hb ka kb => ?_⟩, rfl⟩
        · rw [ar_saw]
          by_cases y : x = t
          · rw [y, upd_s, if_pos (by omega)]
          · rw [upd_n y, u2.r (by decide), j2 x hx, wx x y]
        · rw [ar_saw_ne (by decide)]
          by_cases y1 : a = t
          · rw [y1]; exact Or.inl (u3 b hb).1
          · by_cases y2 : b = t
            · rw [y2]; exact Or.inl (u3 a ha).2
            · rcases u4 a b ha hb with q | q
              · exact Or.inl q
              · have ka : (if a < t + 1 then V.W a else V0.W a) ≠ 0 := ka
                have kb : (if b < t + 1 then V.W b else V0.W b) ≠ 0 := kb
                rw [wx a y1] at ka
                rw [wx b y2] at kb
                rw [q]
                show _ ∨ _ = nI (apart V.M (if a < t + 1 then V.W a else V0.W a) (if b < t + 1 then V.W b else V0.W b))
                rw [wx a y1, wx b y2]
                exact j3 a b ha hb ka kb
      · refine ⟨u, ?_, J⟩
        show kX1_unlearn_2 (F + 1) 19 (nI t) (nI 40) u = _
        rw [kX1_unlearn_2.eq_2, if_pos (by decide)]
      · obtain ⟨i1, i2, i3⟩ := J
        have fk2 := fk1.dn i1
        have fk3 : Fk (saw u 20 (upd (u.ar 20) (t * 40 + o) (-1))) := fk2.dn Dc.up
        show ∃ a', _ ∧ kX1_unlearn_2 (F + 1) 19 (nI t) (nI o) u = _
        rw [kX1_unlearn_2.eq_2, show (40 : Int32) = nI 40 from rfl, if_neg (nI_ge ho (by omega)), fk2.c, bind_s, pk_mul, nI_add, fk2.set (by omega), bind_s, fk3.c, bind_s, pk_mul, nI_add, fk3.set (by omega), bind_s, nI_1]
        have key : ∀ j, (saw (saw u 20 (upd (u.ar 20) (t * 40 + o) (-1))) 20 (upd ((saw u 20 (upd (u.ar 20) (t * 40 + o) (-1))).ar 20) (o * 40 + t) (-1))).ar 20 j = if j = o * 40 + t ∨ j = t * 40 + o then -1 else u.ar 20 j := fun j => by
          rw [ar_saw, ar_saw]
          by_cases y1 : j = o * 40 + t
          · rw [if_pos (Or.inl y1), y1]; exact upd_s
          · rw [upd_n y1]
            by_cases y2 : j = t * 40 + o
            · rw [if_pos (Or.inr y2), y2]; exact upd_s
            · rw [upd_n y2, if_neg (fun w => w.elim y1 y2)]
        refine ⟨_, ⟨(i1.tr Dc.up).tr Dc.up, fun x hx => ?_, fun a b ha hb => ?_⟩, rfl⟩
        · rw [key, key]
          by_cases y : x = o
          · rw [y, if_pos (Or.inr rfl), if_pos (Or.inl rfl)]; exact ⟨rfl, rfl⟩
          · have := i2 x (by omega)
            constructor
            · split
              · rfl
              · exact this.1
            · split
              · rfl
              · exact this.2
        · rw [key]
          split
          · exact Or.inl rfl
          · exact i3 a b ha hb
  · have := cu a b ha hb (by simpa using ka) (by simpa using kb)
    simpa using this
end FOL
