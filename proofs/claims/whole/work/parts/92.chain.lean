section CHN
variable {σ : Hp} {S : MS} {V : Vt} {π : Nat → Nat}
/-- the survey's rows -/
def Sr (σ : Hp) : Prop := (σ.kd 34 = 1 ∧ σ.kd 35 = 1 ∧ σ.kd 36 = 1 ∧ σ.kd 37 = 1) ∧ (σ.ln 34 = 40 ∧ σ.ln 35 = 40 ∧ σ.ln 36 = 40 ∧ σ.ln 37 = 40) ∧ (σ.fr 805 33 = 34 ∧ σ.fr 806 33 = 35 ∧ σ.fr 807 33 = 36 ∧ σ.fr 808 33 = 37)
theorem Sr.sv {σ' : Hp} (h : Sr σ) (s : Sv σ σ') : Sr σ' := by
  unfold Sr at *
  rw [s.1.1, s.1.2.1, s.1.2.2.1]
  exact h
/-- a row of forty is filled -/
theorem c_fill {a : Nat} {v : Int32} (ka : σ.kd a = 1) (la : σ.ln a = 40) : ∃ s, kJ7_fill_53178 σ a v = some s ∧ Dn (fun x => x = a) σ s ∧ s.fi = σ.fi ∧ ∀ j, j < 40 → s.ar a j = v := by
  unfold kJ7_fill_53178
  rw [aln_ok (Or.inl ka), bind_s, la]
  have fl := lp 40 (fun F k (u : Hp) => kJ7_fill_53178_5 F a v (nI k) (nI 40) u) (fun k u => Dn (fun x => x = a) σ u ∧ u.fi = σ.fi ∧ ∀ j, j < k → u.ar a j = v) (fun r => ∃ u, r = some u ∧ Dn (fun x => x = a) σ u ∧ u.fi = σ.fi ∧ ∀ j, j < 40 → u.ar a j = v) (fun F u J => ?_) (fun F k u hk J => Or.inl ?_) 40 0 FU σ (FU_gt (by omega)) rfl ⟨Dn.rfl, rfl, fun j hj => absurd hj (Nat.not_lt_zero _)⟩
  · exact fl
  · refine ⟨u, ?_, J⟩
    show kJ7_fill_53178_5 (F + 1) a v (nI 40) (nI 40) u = _
    rw [kJ7_fill_53178_5.eq_2, if_pos (nI_le (Nat.le_refl _) (by omega))]
  · show ∃ a', _ ∧ kJ7_fill_53178_5 (F + 1) a v (nI k) (nI 40) u = _
    rw [kJ7_fill_53178_5.eq_2, if_neg (nI_ge hk (by omega)), ast_saw (by rw [J.1.1.1]; exact ka) (by rw [J.1.1.2.1, la]; exact hk) (by omega), bind_s, nI_1]
    refine ⟨_, ⟨J.1.xa' rfl, by rw [fi_saw]; exact J.2.1, fun j hj => ?_⟩, rfl⟩
    rw [ar_saw]
    by_cases y : j = k
    · rw [y]; exact upd_s
    · rw [upd_n y]; exact J.2.2 j (by omega)
theorem Sv.dr {a : Nat} {σ' : Hp} (h : Dn (fun x => x = a) σ σ') (hf : σ'.fi = σ.fi) (ha : 34 ≤ a ∧ a ≤ 37) : Sv σ σ' := ⟨h.1, fun i x _ => by rw [hf], fun x hx => (h.2 x (by omega)).2⟩
/-- the nearest that is not chosen yet, the first of like ones -/
def nu (V : Vt) (ch : Nat → Bool) (l : Nat) : Nat → Option Nat
  | 0 => none
  | i + 1 => if hs V i ∧ ch i = false then (match nu V ch l i with | none => some i | some b => if far V l i < far V l b then some i else some b) else nu V ch l i
theorem nu_hs {ch : Nat → Bool} {l : Nat} : ∀ {i b : Nat}, nu V ch l i = some b → hs V b ∧ ch b = false
  | 0, b, h => by cases h
  | i + 1, b, h => by
    unfold nu at h
    split at h
    · rename_i q
      split at h
      · cases h; exact q
      · split at h
        · cases h; exact q
        · rename_i d hd _
          cases h
          exact nu_hs hd
    · exact nu_hs h
theorem nu_none {ch : Nat → Bool} {l : Nat} : ∀ {i : Nat}, nu V ch l i = none → ∀ t, t < i → hs V t → ch t = true
  | 0, _, t, ht, _ => absurd ht (Nat.not_lt_zero t)
  | i + 1, h, t, ht, hst => by
    unfold nu at h
    split at h
    · split at h
      · cases h
      · split at h <;> cases h
    · rename_i q
      by_cases z : t = i
      · cases y : ch t with
        | true => rfl
        | false => exact absurd ⟨z ▸ hst, z ▸ y⟩ q
      · exact nu_none h t (by omega) hst
def chI (b : Bool) : Int32 := if b = true then 1 else 0
theorem c_nearU (h : Bv σ S V π) (sr : Sr σ) {ch : Nat → Bool} {l : Nat} (hl : hs V l) (hc : ∀ t, t < 40 → σ.ar 37 t = chI (ch t)) : kX8_nearestUnchosen σ 33 (nI l) = some (o2i (nu V ch l 40)) := by
  have e40 : (40 : Int32) = nI 40 := rfl
  have f8 : gfr σ 18 808 33 = some 37 := by rw [gfr_ok h.1.1.1, sr.2.2.2.2.2]
  unfold kX8_nearestUnchosen
  refine lp 40 (fun F i (_ : Unit) => kX8_nearestUnchosen_4 σ F 33 (nI l) (o2i (nu V ch l i)) (nI i)) (fun _ _ => True) (fun r => r = some (o2i (nu V ch l 40))) (fun F _ _ => ?_) (fun F i _ hi _ => Or.inl ⟨(), trivial, ?_⟩) 40 0 FU () FU_gt rfl trivial
  · show kX8_nearestUnchosen_4 σ (F + 1) 33 (nI l) (o2i (nu V ch l 40)) (nI 40) = _
    rw [kX8_nearestUnchosen_4.eq_2, if_pos (by decide)]
  · show kX8_nearestUnchosen_4 σ (F + 1) 33 (nI l) (o2i (nu V ch l i)) (nI i) = kX8_nearestUnchosen_4 σ F 33 (nI l) (o2i (nu V ch l (i + 1))) (nI (i + 1))
    rw [kX8_nearestUnchosen_4.eq_2, e40, if_neg (nI_ge hi (by decide)), nu.eq_2]
    simp only [h.1.s, h.1.k3, bind_s, h.c (show i < 2 ^ 31 by omega), ite_bI, f8]
    rw [ald_ok sr.1.2.2.2 (by rw [sr.2.1.2.2.2]; exact hi) (by omega), bind_s, hc i hi]
    unfold kX8_nearestUnchosen_56 kX8_nearestUnchosen_58
    by_cases q : hs V i
    · rw [if_pos q]
      cases c : ch i with
      | true =>
        rw [if_neg (by decide), if_neg (fun y => by cases y.2), nI_1]
      | false =>
        rw [if_pos (show chI false = 0 from rfl), if_pos (show hs V i ∧ false = false from ⟨q, rfl⟩)]
        cases z : nu V ch l i with
        | none => rw [if_pos (show o2i none = -1 from rfl), nI_1]; rfl
        | some b =>
          obtain ⟨hb, -⟩ := nu_hs z
          have b40 := hb.1
          have b1 := far_le h.2.2 l i
          have b2 := far_le h.2.2 l b
          rw [if_neg (show ¬ o2i (some b) = -1 from fun y => (nI_m1 (by omega)).mp y), h.1.f, bind_s, h.1.k19, h.1.of hl q, bind_s, bind_s, h.1.k19, show o2i (some b) = nI b from rfl, h.1.of hl hb, bind_s, nI_1]
          by_cases y : far V l i < far V l b
          · rw [if_neg (nI_ge y (by omega))]
            simp only [if_pos y]
            rfl
          · rw [if_pos (nI_le (by omega) (by omega))]
            simp only [if_neg y]
            rfl
    · rw [if_neg q, if_neg (fun y => q y.1), nI_1]
theorem len23 : m_len 23 = 40 := rfl
theorem len25 : m_len 25 = 40 := rfl
/-- the reference's row of those that are left -/
def Un (T : MS) (V : Vt) (ch : Nat → Bool) : Prop := ∀ t, t < 40 → T.1 23 t = if hs V t ∧ ch t = false then 0 else -1
theorem r_chain70 (h : Bv σ S V π) {k42 : Int32 → Int32 → MS → Option (Int32 × MS)} {x2 : Int32} {ch : Nat → Bool} {l : Nat} (hl : hs V l) (hu : Un S V ch) : ∃ S', r_layChain_70 k42 FU x2 (nI l) (-1) 0 S = k42 x2 (o2i (nu V ch l 40)) S' ∧ Rk S S' ∧ S'.1 23 = S.1 23 ∧ S'.1 25 = S.1 25 ∧ S'.2 42 = S.2 42 + (match nu V ch l 40 with | none => 0 | some b => nI (far V l b)) := by
  have e40 : (40 : Int32) = nI 40 := rfl
  refine lp 40 (fun F i (T : MS) => r_layChain_70 k42 F x2 (nI l) (o2i (nu V ch l i)) (nI i) T) (fun i T => S2 S T) (fun r => ∃ S', r = k42 x2 (o2i (nu V ch l 40)) S' ∧ Rk S S' ∧ S'.1 23 = S.1 23 ∧ S'.1 25 = S.1 25 ∧ S'.2 42 = S.2 42 + (match nu V ch l 40 with | none => 0 | some b => nI (far V l b))) (fun F T J => ?_) (fun F i T hi J => Or.inl ?_) 40 0 FU S FU_gt rfl S2.rfl
  · show ∃ S', r_layChain_70 k42 (F + 1) x2 (nI l) (o2i (nu V ch l 40)) (nI 40) T = _ ∧ _
    rw [r_layChain_70.eq_2, if_pos (by decide)]
    unfold r_layChain_143
    cases z : nu V ch l 40 with
    | none =>
      rw [if_pos (show o2i none = -1 from rfl)]
      refine ⟨T, rfl, J.rk, J.r (by decide) (by decide), J.r (by decide) (by decide), ?_⟩
      rw [J.f]
      show _ = S.2 42 + 0
      rw [Int32.add_zero]
    | some b =>
      obtain ⟨hb, -⟩ := nu_hs z
      have b40 := hb.1
      rw [if_neg (show ¬ o2i (some b) = -1 from fun y => (nI_m1 (by omega)).mp y), show o2i (some b) = nI b from rfl]
      obtain ⟨T1, g1, g2⟩ := (h.s2 J).fa hl hb
      rw [g1, bd2_s]
      refine ⟨_, rfl, (J.trans g2).rk.trans (Rk.pf (by omega)), ?_, ?_, ?_⟩
      · rw [pf_1, g2.r (by decide) (by decide), J.r (by decide) (by decide)]
      · rw [pf_1, g2.r (by decide) (by decide), J.r (by decide) (by decide)]
      · rw [pf_s, J.f]
  · have hT := h.s2 J
    show ∃ a', S2 S a' ∧ r_layChain_70 k42 (F + 1) x2 (nI l) (o2i (nu V ch l i)) (nI i) T = r_layChain_70 k42 F x2 (nI l) (o2i (nu V ch l (i + 1))) (nI (i + 1)) a'
    rw [r_layChain_70.eq_2, e40, if_neg (nI_ge hi (by decide)), rd_ok (show i < m_len 23 by rw [len23]; exact hi) (by omega), bind_s, J.r (by decide) (by decide), hu i hi, nu.eq_2]
    unfold r_layChain_111 r_layChain_115
    by_cases q : hs V i ∧ ch i = false
    · rw [if_pos q, if_pos q, if_neg (by decide)]
      cases z : nu V ch l i with
      | none =>
        rw [if_pos (show o2i none = -1 from rfl), nI_1]
        exact ⟨T, J, rfl⟩
      | some b =>
        obtain ⟨hb, -⟩ := nu_hs z
        have b40 := hb.1
        have b1 := far_le h.2.2 l i
        have b2 := far_le h.2.2 l b
        obtain ⟨T1, g1, g2⟩ := hT.fa hl q.1
        obtain ⟨T2, g3, g4⟩ := (hT.s2 g2).fa hl hb
        rw [if_neg (show ¬ o2i (some b) = -1 from fun y => (nI_m1 (by omega)).mp y), g1, bd2_s, show o2i (some b) = nI b from rfl, g3, bd2_s, nI_1]
        refine ⟨T2, (J.trans g2).trans g4, ?_⟩
        by_cases y : far V l i < far V l b
        · rw [if_neg (nI_ge y (by omega))]
          simp only [if_pos y]
          rfl
        · rw [if_pos (nI_le (by omega) (by omega))]
          simp only [if_neg y]
          rfl
    · rw [if_neg q, if_neg q, if_pos rfl, nI_1]
      exact ⟨T, J, rfl⟩
def upb (ch : Nat → Bool) (l : Nat) : Nat → Bool := fun t => if t = l then true else ch t
def cc (ch : Nat → Bool) : Nat := su (fun t => if ch t = true then 1 else 0) 40
theorem cc_up {ch : Nat → Bool} {l : Nat} (hl : l < 40) (h : ch l = false) : cc (upb ch l) = cc ch + 1 := by
  have := su_upd (f := fun t => if ch t = true then 1 else 0) (h := fun t => if upb ch l t = true then 1 else 0) (k := l) (d := 1) (by
    show (if upb ch l l = true then 1 else 0) = (if ch l = true then 1 else 0) + 1
    unfold upb
    rw [if_pos (rfl : l = l), h]; rfl) (fun i hi => by
    show (if upb ch l i = true then 1 else 0) = _
    unfold upb
    rw [if_neg hi]) 40
  rw [if_pos hl] at this
  exact this
theorem cc_le {ch : Nat → Bool} (h : ∀ t, ch t = true → hs V t) : cc ch ≤ cn V := by
  rw [cn_su]
  refine su_mono 40 (fun t _ => ?_)
  show (if ch t = true then 1 else 0) ≤ if hs V t then 1 else 0
  by_cases z : ch t = true
  · rw [if_pos z, if_pos (h t z)]; exact Nat.le_refl _
  · rw [if_neg z]; exact Nat.zero_le _
theorem cc_all {ch : Nat → Bool} (h : ∀ t, ch t = true → hs V t) (h2 : ∀ t, t < 40 → hs V t → ch t = true) : cc ch = cn V := by
  rw [cn_su]
  refine su_congr 40 (fun t ht => ?_)
  show (if ch t = true then 1 else 0) = if hs V t then 1 else 0
  by_cases z : hs V t
  · rw [if_pos z, if_pos (h2 t ht z)]
  · rw [if_neg z, if_neg (fun y => z (h t y))]
/-- what holds before a link is laid -/
def Cl (V : Vt) (ch : Nat → Bool) (last : Option Nat) (n : Nat) : Prop := (∀ t, ch t = true → hs V t) ∧ (∀ l, last = some l → hs V l ∧ ch l = false) ∧ cc ch = n ∧ (last = none → ∀ t, t < 40 → hs V t → ch t = true)
set_option maxHeartbeats 1000000 in
theorem j_links : ∀ (m n F F' sum : Nat) (ch : Nat → Bool) (last : Option Nat) (σ : Hp) (S : MS), n + m = cn V → m < F → m < F' → Bv σ S V π → Sr σ → Cl V ch last n → (∀ t, t < 40 → σ.ar 37 t = chI (ch t)) → Un S V ch → S.2 42 = nI sum → (∀ i, i < n → σ.ar 34 i = S.1 25 i) → ∃ σ' S' tot, kX8_linkFrom_15 F 33 (nI sum) (o2i last) (nI n) σ = some (nI tot, σ') ∧ r_layChain_42 F' (nI n) (o2i last) S = some (nI (cn V), S') ∧ S'.2 42 = nI tot ∧ (∀ i, i < cn V → σ'.ar 34 i = S'.1 25 i) ∧ Sv σ σ' ∧ Rk S S' := by
  intro m
  induction m with
  | zero =>
    intro n F F' sum ch last σ S hn hF hF' h sr cl hc hu hs42 hl
    obtain ⟨F, rfl⟩ : ∃ F0, F = F0 + 1 := ⟨F - 1, by omega⟩
    obtain ⟨F', rfl⟩ : ∃ F0, F' = F0 + 1 := ⟨F' - 1, by omega⟩
    have c40 := cn_le V
    have hn : n = cn V := by omega
    have ln : last = none := by
      cases z : last with
      | none => rfl
      | some l =>
        obtain ⟨a1, a2⟩ := cl.2.1 l z
        have x1 := cc_up a1.1 a2
        have x2 := cc_le (V := V) (ch := upb ch l) (fun t ht => by
          unfold upb at ht
          by_cases y : t = l
          · rw [y]; exact a1
          · rw [if_neg y] at ht; exact cl.1 t ht)
        have := cl.2.2.1
        omega
    subst ln
    rw [kX8_linkFrom_15.eq_2, h.1.s, bind_s, h.1.n, bind_s, if_pos (nI_le (by omega) (by omega)), r_layChain_42.eq_2, if_pos (show o2i none = -1 from rfl), hn]
    exact ⟨σ, S, sum, rfl, rfl, hs42, fun i hi => hl i (by omega), Sv.rfl, Rk.rfl⟩
  | succ m ih =>
    intro n F F' sum ch last σ S hn hF hF' h sr cl hc hu hs42 hl
    obtain ⟨F, rfl⟩ : ∃ F0, F = F0 + 1 := ⟨F - 1, by omega⟩
    obtain ⟨F', rfl⟩ : ∃ F0, F' = F0 + 1 := ⟨F' - 1, by omega⟩
    have c40 := cn_le V
    obtain ⟨l, rfl⟩ : ∃ l, last = some l := by
      cases z : last with
      | some l => exact ⟨l, rfl⟩
      | none =>
        have := cc_all cl.1 (cl.2.2.2 z)
        have := cl.2.2.1
        omega
    obtain ⟨a1, a2⟩ := cl.2.1 l rfl
    have l40 := a1.1
    have nm : ¬ o2i (some l) = -1 := fun y => (nI_m1 (by omega)).mp y
    -- the class
    have f5 : gfr σ 18 805 33 = some 34 := by rw [gfr_ok h.1.1.1, sr.2.2.1]
    have w34 : ast σ 1 34 (nI n) (nI l) = some (saw σ 34 (upd (σ.ar 34) n (nI l))) := ast_saw sr.1.1 (by rw [sr.2.1.1]; omega) (by omega)
    generalize hs1 : saw σ 34 (upd (σ.ar 34) n (nI l)) = σ1 at w34
    have sv1 : Sv σ σ1 := by rw [← hs1]; exact Sv.saw ⟨by omega, by omega⟩
    have sr1 := sr.sv sv1
    have f8 : gfr σ1 18 808 33 = some 37 := by rw [gfr_ok (h.1.sv sv1).1.1, sr1.2.2.2.2.2]
    have w37 : ast σ1 1 37 (nI l) 1 = some (saw σ1 37 (upd (σ1.ar 37) l 1)) := ast_saw sr1.1.2.2.2 (by rw [sr1.2.1.2.2.2]; omega) (by omega)
    generalize hs2 : saw σ1 37 (upd (σ1.ar 37) l 1) = σ2 at w37
    have sv2 : Sv σ σ2 := by rw [← hs2]; exact sv1.trans (Sv.saw ⟨by omega, by omega⟩)
    have sr2 := sr.sv sv2
    have h2 := h.sv sv2
    have hc2 : ∀ t, t < 40 → σ2.ar 37 t = chI (upb ch l t) := fun t ht => by
      rw [← hs2, ar_saw, ← hs1, ar_saw_ne (by omega)]
      unfold upb
      by_cases z : t = l
      · rw [z, upd_s, if_pos rfl]; rfl
      · rw [upd_n z, if_neg z]; exact hc t ht
    have near := c_nearU h2 sr2 a1 hc2
    -- the reference
    have r25 : wr S 25 (nI n) (nI l) = some (up2 S.1 25 n (nI l), S.2) := wr_ok (show n < m_len 25 by rw [len25]; omega) (by omega)
    have r23 : wr (up2 S.1 25 n (nI l), S.2) 23 (nI l) (-1) = some (up2 (up2 S.1 25 n (nI l)) 23 l (-1), S.2) := wr_ok (show l < m_len 23 by rw [len23]; omega) (by omega)
    generalize hT : ((up2 (up2 S.1 25 n (nI l)) 23 l (-1), S.2) : MS) = T at r23
    have rk1 : Rk S T := by rw [← hT]; exact (Rk.wr (by omega)).trans (Rk.wr (by omega))
    have uT : Un T V (upb ch l) := fun t ht => by
      rw [← hT]
      show up2 (up2 S.1 25 n (nI l)) 23 l (-1) 23 t = _
      unfold upb
      by_cases z : t = l
      · rw [z, up2_s, if_neg (fun y => by have := y.2; rw [if_pos rfl] at this; cases this)]
      · rw [up2_i z, up2_j (by omega), hu t ht, if_neg z]
    have t25 : ∀ i, i ≠ n → T.1 25 i = S.1 25 i := fun i hi => by
      rw [← hT]
      show up2 (up2 S.1 25 n (nI l)) 23 l (-1) 25 i = _
      rw [up2_j (by omega), up2_i hi]
    have t25n : T.1 25 n = nI l := by
      rw [← hT]
      show up2 (up2 S.1 25 n (nI l)) 23 l (-1) 25 n = _
      rw [up2_j (by omega), up2_s]
    obtain ⟨T1, g1, g2, g3, g4, g5⟩ := r_chain70 (k42 := r_layChain_42 F') (x2 := nI (n + 1)) (h.rk rk1) a1 uT
    have tf : T.2 42 = nI sum := by rw [← hT]; exact hs42
    rw [kX8_linkFrom_15.eq_2, h.1.s, bind_s, h.1.n, bind_s, if_neg (nI_ge (by omega) (by omega)), show (40 : Int32) = nI 40 from rfl, if_neg (nI_ge (by omega) (by omega)), if_neg nm, f5, bind_s, show o2i (some l) = nI l from rfl, w34, bind_s, f8, bind_s, w37, bind_s, h2.1.k33, near, bind_s]
    rw [r_layChain_42.eq_2, if_neg (show ¬ nI l = -1 from nm), r25, bind_s, r23, bind_s, nI_1, g1]
    unfold kX8_linkFrom_82
    have cl2 : Cl V (upb ch l) (nu V (upb ch l) l 40) (n + 1) := ⟨fun t ht => by
      unfold upb at ht
      by_cases y : t = l
      · rw [y]; exact a1
      · rw [if_neg y] at ht; exact cl.1 t ht, fun b hb => nu_hs hb, by rw [cc_up l40 a2, cl.2.2.1], fun hh => nu_none hh⟩
    have u1 : Un T1 V (upb ch l) := fun t ht => by rw [g3]; exact uT t ht
    have l34 : ∀ i, i < n + 1 → σ2.ar 34 i = T1.1 25 i := fun i hi => by
      rw [g4, ← hs2, ar_saw_ne (by omega), ← hs1, ar_saw]
      by_cases z : i = n
      · rw [z, upd_s, t25n]
      · rw [upd_n z, t25 i z]; exact hl i (by omega)
    rw [tf] at g5
    have go : ∀ s2 : Nat, T1.2 42 = nI s2 → ∃ σ' S' tot, kX8_linkFrom_15 F 33 (nI s2) (o2i (nu V (upb ch l) l 40)) (nI (n + 1)) σ2 = some (nI tot, σ') ∧ r_layChain_42 F' (nI (n + 1)) (o2i (nu V (upb ch l) l 40)) T1 = some (nI (cn V), S') ∧ S'.2 42 = nI tot ∧ (∀ i, i < cn V → σ'.ar 34 i = S'.1 25 i) ∧ Sv σ σ' ∧ Rk S S' := fun s2 e => by
      obtain ⟨σ', S', tot, y1, y2, y3, y4, y5, y6⟩ := ih (n + 1) F F' s2 (upb ch l) (nu V (upb ch l) l 40) σ2 T1 (by omega) (by omega) (by omega) (h2.rk (rk1.trans g2)) sr2 cl2 hc2 u1 e l34
      exact ⟨σ', S', tot, y1, y2, y3, y4, sv2.trans y5, (rk1.trans g2).trans y6⟩
    cases z : nu V (upb ch l) l 40 with
    | none =>
      rw [z] at g5 go
      rw [if_pos (show o2i none = -1 from rfl), show (0 : Int32) = nI 0 from rfl, nI_add, nI_1]
      exact go (sum + 0) (by rw [g5]; exact Int32.add_zero _)
    | some b =>
      rw [z] at g5 go
      obtain ⟨hb, -⟩ := nu_hs z
      have b40 := hb.1
      rw [if_neg (show ¬ o2i (some b) = -1 from fun y => (nI_m1 (by omega)).mp y), h2.1.f, bind_s, h2.1.k19, show kX1_of σ2 19 (nI l) (o2i (some b)) = some (nI (far V l b)) from h2.1.of a1 hb, bind_s, nI_add, nI_1]
      exact go (sum + far V l b) (by rw [g5]; exact nI_add _ _)
/-- a chain, on both sides -/
theorem j_chain (h : Bv σ S V π) (sr : Sr σ) {t : Nat} (ht : hs V t) : ∃ σ' S' tot, kX8_linkFrom σ 33 (nI t) = some (nI tot, σ') ∧ r_layChain S (nI t) = some (nI (cn V), S') ∧ S'.2 42 = nI tot ∧ (∀ i, i < cn V → σ'.ar 34 i = S'.1 25 i) ∧ Sv σ σ' ∧ Rk S S' := by
  have e40 : (40 : Int32) = nI 40 := rfl
  have e0 : (0 : Int32) = nI 0 := rfl
  have f8 : gfr σ 18 808 33 = some 37 := by rw [gfr_ok h.1.1.1, sr.2.2.2.2.2]
  have c40 := cn_le V
  obtain ⟨s1, g1, g2, g3, g4⟩ := c_fill (v := 0) sr.1.2.2.2 sr.2.1.2.2.2
  have sv1 := Sv.dr g2 g3 ⟨by omega, by omega⟩
  unfold kX8_linkFrom r_layChain
  rw [f8, bind_s, g1, bind_s]
  have lo := lp 40 (fun F i (T : MS) => r_layChain_2 F (nI t) (nI i) T) (fun i T => Rk S T ∧ ∀ x, x < i → T.1 23 x = if hs V x then 0 else -1) (fun r => ∃ T, r = r_layChain_42 FU 0 (nI t) (pf T 42 0) ∧ Rk S T ∧ ∀ x, x < 40 → T.1 23 x = if hs V x then 0 else -1) (fun F T J => ?_) (fun F i T hi J => Or.inl ?_) 40 0 FU S FU_gt rfl ⟨Rk.rfl, fun x hx => absurd hx (Nat.not_lt_zero _)⟩
  · obtain ⟨T, k1, k2, k3⟩ := lo
    rw [e0, k1]
    have rk2 : Rk S (pf T 42 0) := k2.trans (Rk.pf (by omega))
    obtain ⟨σ', S', tot, y1, y2, y3, y4, y5, y6⟩ := j_links (V := V) (π := π) (cn V) 0 FU FU 0 (fun _ => false) (some t) s1 (pf T 42 0) (by omega) (FU_gt (by omega)) (FU_gt (by omega)) ((h.sv sv1).rk rk2) (sr.sv sv1) ⟨fun x hx => (by cases hx), fun l hl => (by cases hl; exact ⟨ht, rfl⟩), rfl, fun hh => (by cases hh)⟩ (fun x hx => g4 x hx) (fun x hx => by
      rw [pf_1, k3 x hx]
      by_cases z : hs V x
      · rw [if_pos z, if_pos ⟨z, rfl⟩]
      · rw [if_neg z, if_neg (fun y => z y.1)]) pf_s (fun i hi => absurd hi (Nat.not_lt_zero _))
    exact ⟨σ', S', tot, y1, y2, y3, y4, sv1.trans y5, rk2.trans y6⟩
  · refine ⟨T, ?_, J⟩
    show r_layChain_2 (F + 1) (nI t) (nI 40) T = _
    rw [r_layChain_2.eq_2, if_pos (by decide)]
  · obtain ⟨j1, j2⟩ := J
    show ∃ a', _ ∧ r_layChain_2 (F + 1) (nI t) (nI i) T = _
    rw [r_layChain_2.eq_2, e40, if_neg (nI_ge hi (by decide)), (h.rk j1).r (show i < 2 ^ 31 by omega), bind_s, ite_bI]
    unfold r_layChain_26
    have w : ∀ v : Int32, wr T 23 (nI i) v = some (up2 T.1 23 i v, T.2) := fun v => wr_ok (show i < m_len 23 by rw [len23]; omega) (by omega)
    have nx : ∀ v : Int32, v = (if hs V i then 0 else -1) → (Rk S (up2 T.1 23 i v, T.2) ∧ ∀ x, x < i + 1 → up2 T.1 23 i v 23 x = if hs V x then 0 else -1) := fun v hv => ⟨j1.trans (Rk.wr (by omega)), fun x hx => by
      by_cases z : x = i
      · rw [z, up2_s, hv]
      · rw [up2_i z]; exact j2 x (by omega)⟩
    by_cases q : hs V i
    · rw [if_pos q, w, bind_s, nI_1]
      exact ⟨_, nx 0 (by rw [if_pos q]), rfl⟩
    · rw [if_neg q, w, bind_s, nI_1]
      exact ⟨_, nx (-1) (by rw [if_neg q]), rfl⟩
end CHN
