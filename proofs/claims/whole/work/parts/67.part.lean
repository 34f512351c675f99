-- the reference's rows and numbers: what is left as it was
def Rn (A B : Nat → Prop) (S S' : MS) : Prop := (∀ j, ¬ A j → S'.1 j = S.1 j) ∧ ∀ k, ¬ B k → S'.2 k = S.2 k
section RN
variable {A B A' B' : Nat → Prop} {S S1 S2' : MS}
theorem Rn.rfl : Rn A B S S := ⟨fun _ _ => Eq.refl _, fun _ _ => Eq.refl _⟩
theorem Rn.tr (h : Rn A B S S1) (g : Rn A B S1 S2') : Rn A B S S2' := ⟨fun j hj => (g.1 j hj).trans (h.1 j hj), fun k hk => (g.2 k hk).trans (h.2 k hk)⟩
theorem Rn.mono (h : Rn A B S S1) (ha : ∀ j, A j → A' j) (hb : ∀ j, B j → B' j) : Rn A' B' S S1 := ⟨fun j hj => h.1 j (fun q => hj (ha j q)), fun k hk => h.2 k (fun q => hk (hb k q))⟩
theorem Rn.s2 (h : S2 S S1) (h2 : A 2) (h3 : A 3) : Rn A B S S1 := ⟨fun j hj => h.r (fun q => hj (q ▸ h2)) (fun q => hj (q ▸ h3)), fun k _ => by rw [h.f]⟩
theorem Rn.pf {k : Nat} {v : Int32} (h : B k) : Rn A B S (pf S k v) := ⟨fun _ _ => Eq.refl _, fun j hj => upd_n (fun q => hj (q ▸ h))⟩
theorem Rn.up {j i : Nat} {v : Int32} (h : A j) : Rn A B S (up2 S.1 j i v, S.2) := ⟨fun j2 hj => by
  funext i2
  show (if j2 = j ∧ i2 = i then v else S.1 j2 i2) = _
  exact if_neg (fun q : j2 = j ∧ i2 = i => hj (q.1 ▸ h)), fun _ _ => Eq.refl _⟩
theorem Rn.r0 {f : Nat → Int32} (h : A 0) : Rn A B S (r0 S f) := ⟨fun j hj => r0_j (fun q => hj (q ▸ h)), fun _ _ => Eq.refl _⟩
end RN
theorem up2_n {A : Nat → Nat → Int32} {j i j2 i2 : Nat} {v : Int32} (h : ¬ (j2 = j ∧ i2 = i)) : up2 A j i v j2 i2 = A j2 i2 := if_neg h
theorem pf_s {S : MS} {k : Nat} {v : Int32} : (pf S k v).2 k = v := upd_s
theorem pf_n {S : MS} {k j : Nat} {v : Int32} (h : j ≠ k) : (pf S k v).2 j = S.2 j := upd_n h
theorem pf_1 {S : MS} {k : Nat} {v : Int32} : (pf S k v).1 = S.1 := nr rfl
theorem len6 : m_len 6 = 7 := rfl
theorem len7 : m_len 7 = 7 := rfl
theorem len4 : m_len 4 = 42 := rfl
theorem len5 : m_len 5 = 42 := rfl
/-- entries of the reference that have the things and reaches of a list -/
def Lm (es : List Ent) (L : List Re) : Prop := L.length = es.length ∧ ∀ (k : Nat) (e : Ent), es[k]? = some e → ∃ w v, L[k]? = some (e.1, e.2.1, w, v)
section PT
variable {S : MS} {V : Vt} {q : Nat} {lf : Bool} {L : List Re} {es : List Ent}
set_option maxHeartbeats 1000000 in
theorem r_part_eq (rw0 : RW (S.1 0) 2 V) (hv : Vw V) (rp : RP (S.1 0) (94 + 30 * q) lf L) (hq : q < 784) (hL : Lm es L) (hes : ∀ e ∈ es, hs V e.1 ∧ e.2.1 ≤ 9000) {i j : Nat} (hi : i < es.length) (hj : j < es.length) (hij : i ≠ j) : ∃ S', r_part S (nI q) (nI i) (nI j) = some S' ∧ Rn (fun x => x = 2 ∨ x = 3 ∨ x = 6) (fun k => k = 8 ∨ k = 9) S S' ∧ S'.2 8 = nI (gr1 V es i j es.length) ∧ S'.2 9 = nI (gr2 V es i j es.length) ∧ (∀ k, k < es.length → S'.1 6 k = bI (secB V es i j k = true)) := by
  have h7 := rp.2.2
  have hl := hL.1
  have e0 : (0 : Int32) = nI 0 := rfl
  have gb1 := gr1_le hv (i := i) (j := j) (rg_le (fun e he => (hes e he).2))
  have gb2 := gr2_le hv (i := i) (j := j) (rg_le (fun e he => (hes e he).2))
  have rb := rg_le (fun e he => (hes e he).2)
  obtain ⟨ei, hei⟩ : ∃ e, es[i]? = some e := ⟨_, List.getElem?_eq_getElem hi⟩
  obtain ⟨ej, hej⟩ : ∃ e, es[j]? = some e := ⟨_, List.getElem?_eq_getElem hj⟩
  have hsi := (hes ei (List.mem_of_getElem? hei))
  have hsj := (hes ej (List.mem_of_getElem? hej))
  obtain ⟨wi, vi, hLi⟩ := hL.2 i ei hei
  obtain ⟨wj, vj, hLj⟩ := hL.2 j ej hej
  have base : ∀ T, Rn (fun x => x = 2 ∨ x = 3 ∨ x = 6) (fun k => k = 8 ∨ k = 9) S T → RW (T.1 0) 2 V ∧ RP (T.1 0) (94 + 30 * q) lf L := fun T g => by
    rw [g.1 0 (by omega)]
    exact ⟨rw0, rp⟩
  have m1 : ∀ k, max (rg es i) (gr1 V es i j k) ≤ 9099 := fun k => by have := gb1 k; have := rb i; omega
  have m2 : ∀ k, max (rg es j) (gr2 V es i j k) ≤ 9099 := fun k => by have := gb2 k; have := rb j; omega
  unfold r_part
  rw [rp.t1 hq hLi, bind_s]
  have rp1 : RP ((pf S 8 (nI ei.2.1)).1 0) (94 + 30 * q) lf L := rp
  rw [rp1.t1 hq hLj, bind_s, e0]
  refine lp es.length (fun F k (T : MS) => r_part_25 F (nI q) (nI i) (nI j) (nI k) T) (fun k T => Rn (fun x => x = 2 ∨ x = 3 ∨ x = 6) (fun k => k = 8 ∨ k = 9) S T ∧ T.2 8 = nI (max (rg es i) (gr1 V es i j k)) ∧ T.2 9 = nI (max (rg es j) (gr2 V es i j k)) ∧ ∀ k', k' < k → T.1 6 k' = bI (secB V es i j k' = true)) (fun r => ∃ S', r = some S' ∧ Rn (fun x => x = 2 ∨ x = 3 ∨ x = 6) (fun k => k = 8 ∨ k = 9) S S' ∧ S'.2 8 = nI (gr1 V es i j es.length) ∧ S'.2 9 = nI (gr2 V es i j es.length) ∧ (∀ k, k < es.length → S'.1 6 k = bI (secB V es i j k = true))) (fun F T J => ?_) (fun F k T hk J => Or.inl ?_) es.length 0 FU _ (FU_gt (by omega)) (by omega) ⟨(Rn.pf (Or.inl rfl)).tr (Rn.pf (Or.inr rfl)), ?_, ?_, fun k' hk' => absurd hk' (Nat.not_lt_zero _)⟩
  · obtain ⟨j1, j2, j3, j4⟩ := J
    obtain ⟨rw1, rp1⟩ := base T j1
    refine ⟨T, ?_, j1, ?_, ?_, j4⟩
    · show r_part_25 (F + 1) (nI q) (nI i) (nI j) (nI es.length) T = _
      rw [r_part_25.eq_2, rp1.n hq, bind_s, hl, if_pos (nI_le (Nat.le_refl _) (by omega))]
    · rw [j2]
      congr 1
      have : ∀ n, i < n → rg es i ≤ gr1 V es i j n := fun n => by
        induction n with
        | zero => intro h; omega
        | succ n ih =>
          intro h
          rw [gr1.eq_2]
          by_cases z : i = n
          · subst z
            have : secB V es i j i = false := by unfold secB; simp [hij]
            rw [this, if_neg (by decide)]
            omega
          · have := ih (by omega)
            split <;> omega
      exact Nat.max_eq_right (this _ hi)
    · rw [j3]
      congr 1
      have : ∀ n, j < n → rg es j ≤ gr2 V es i j n := fun n => by
        induction n with
        | zero => intro h; omega
        | succ n ih =>
          intro h
          rw [gr2.eq_2]
          by_cases z : j = n
          · subst z
            have : secB V es i j j = true := by unfold secB; simp
            rw [this, if_pos rfl]
            omega
          · have := ih (by omega)
            split <;> omega
      exact Nat.max_eq_right (this _ hj)
  · obtain ⟨j1, j2, j3, j4⟩ := J
    obtain ⟨rw1, rp1⟩ := base T j1
    obtain ⟨ek, hek⟩ : ∃ e, es[k]? = some e := ⟨_, List.getElem?_eq_getElem hk⟩
    obtain ⟨wk, vk, hLk⟩ := hL.2 k ek hek
    have hsk := hes ek (List.mem_of_getElem? hek)
    have fl1 := far_le hv ei.1 ek.1
    have fl2 := far_le hv ej.1 ek.1
    have b1 := m1 k
    have b2 := m2 k
    have gg1 : gr1 V es i j (k + 1) = if secB V es i j k = true then gr1 V es i j k else max (gr1 V es i j k) (ek.2.1 + far V ei.1 ek.1) := by
      rw [gr1.eq_2, rg_eq hek, tg_eq hei, tg_eq hek]
    have gg2 : gr2 V es i j (k + 1) = if secB V es i j k = true then max (gr2 V es i j k) (ek.2.1 + far V ej.1 ek.1) else gr2 V es i j k := by
      rw [gr2.eq_2, rg_eq hek, tg_eq hej, tg_eq hek]
    show ∃ T', _ ∧ r_part_25 (F + 1) (nI q) (nI i) (nI j) (nI k) T = r_part_25 F (nI q) (nI i) (nI j) (nI (k + 1)) T'
    rw [r_part_25.eq_2, rp1.n hq, bind_s, hl, if_neg (nI_ge hk (by omega))]
    -- the first write
    have w1 : ∀ v : Int32, (v = 0 ∨ v = 1) → r_part_52 (r_part_25 F) (nI q) (nI i) (nI j) (nI k) (nI k) v T = (if nI k = nI i then r_part_198 (r_part_25 F) (nI q) (nI i) (nI j) (nI k) (up2 T.1 6 k v, T.2) else if nI k = nI j then r_part_198 (r_part_25 F) (nI q) (nI i) (nI j) (nI k) (up2 T.1 6 k v, T.2) else r_part_52 (r_part_25 F) (nI q) (nI i) (nI j) (nI k) (nI k) v T) := fun v hv => by
      have nv : vp_nar .boolean v = v := by rcases hv with rfl | rfl <;> rfl
      unfold r_part_52
      rw [wr_ok (show k < m_len 6 by rw [len6]; omega) (by omega), bind_s, nv]
      by_cases z : nI k = nI i
      · rw [if_pos z, if_pos z]
      · rw [if_neg z, if_neg z]
        by_cases z2 : nI k = nI j
        · rw [if_pos z2, if_pos z2]
        · rw [if_neg z2, if_neg z2]
    have rows : ∀ (T' : MS), (∀ k', k' ≠ k → T'.1 6 k' = T.1 6 k') → T'.1 6 k = bI (secB V es i j k = true) → ∀ k', k' < k + 1 → T'.1 6 k' = bI (secB V es i j k' = true) := fun T' h1 h2 k' hk' => by
      by_cases z : k' = k
      · rw [z]; exact h2
      · rw [h1 k' z]; exact j4 k' (by omega)
    by_cases z1 : k = j
    · subst z1
      have sb : secB V es i k k = true := by unfold secB; simp
      rw [sb, if_pos rfl] at gg1 gg2
      rw [if_pos rfl, w1 1 (Or.inr rfl), if_neg (fun y => hij ((nI_eq (by omega) (by omega)).mp y).symm), if_pos rfl]
      unfold r_part_198
      rw [nI_1]
      refine ⟨_, ⟨j1.tr (Rn.up (Or.inr (Or.inr rfl))), ?_, ?_, rows _ (fun k' hk' => up2_n (fun y => hk' y.2)) ?_⟩, rfl⟩
      · show T.2 8 = _
        rw [j2, gg1]
      · show T.2 9 = _
        rw [hej] at hek
        cases hek
        rw [j3, gg2, far_self hv, rg_eq hej]
        congr 1
        omega
      · show up2 T.1 6 k 1 6 k = _
        rw [up2_s, sb]
        rfl
    · rw [if_neg (fun y => z1 ((nI_eq (by omega) (by omega)).mp y)), w1 0 (Or.inl rfl)]
      by_cases z2 : k = i
      · subst z2
        have sb : secB V es k j k = false := by unfold secB; simp [z1]
        rw [sb, if_neg (by decide)] at gg1 gg2
        rw [if_pos rfl]
        unfold r_part_198
        rw [nI_1]
        refine ⟨_, ⟨j1.tr (Rn.up (Or.inr (Or.inr rfl))), ?_, ?_, rows _ (fun k' hk' => up2_n (fun y => hk' y.2)) ?_⟩, rfl⟩
        · show T.2 8 = _
          rw [hei] at hek
          cases hek
          rw [j2, gg1, far_self hv, rg_eq hei]
          congr 1
          omega
        · show T.2 9 = _
          rw [j3, gg2]
        · show up2 T.1 6 k 0 6 k = _
          rw [up2_s, sb]
          rfl
      · rw [if_neg (fun y => z2 ((nI_eq (by omega) (by omega)).mp y)), if_neg (fun y => z1 ((nI_eq (by omega) (by omega)).mp y))]
        unfold r_part_52
        rw [wr_ok (show k < m_len 6 by rw [len6]; omega) (by omega), bind_s, show vp_nar .boolean 0 = 0 from rfl, if_neg (fun y => z2 ((nI_eq (by omega) (by omega)).mp y)), if_neg (fun y => z1 ((nI_eq (by omega) (by omega)).mp y))]
        generalize hT1 : ((up2 T.1 6 k 0, T.2) : MS) = T1
        have d1 : Rn (fun x => x = 2 ∨ x = 3 ∨ x = 6) (fun k => k = 8 ∨ k = 9) S T1 := by rw [← hT1]; exact j1.tr (Rn.up (Or.inr (Or.inr rfl)))
        obtain ⟨rwa, rpa⟩ := base T1 d1
        obtain ⟨T2, g1, g2⟩ := r_farOf_eq rwa hv hsi.1 hsk.1
        have d2 := d1.tr (Rn.s2 g2 (Or.inl rfl) (Or.inr (Or.inl rfl)))
        obtain ⟨rwb, rpb⟩ := base T2 d2
        obtain ⟨T3, g3, g4⟩ := r_farOf_eq rwb hv hsj.1 hsk.1
        have d3 := d2.tr (Rn.s2 g4 (Or.inl rfl) (Or.inr (Or.inl rfl)))
        obtain ⟨rwc, rpc⟩ := base T3 d3
        rw [rpa.t0 hq hLi, bind_s, rpa.t0 hq hLk, bind_s, g1, bd2_s, rpb.t0 hq hLj, bind_s, rpb.t0 hq hLk, bind_s, g3, bd2_s]
        have f3 : T3.2 = T.2 := by rw [g4.f, g2.f, ← hT1]
        have r3 : T3.1 6 = up2 T.1 6 k 0 6 := by rw [g4.r (by decide) (by decide), g2.r (by decide) (by decide), ← hT1]
        have sb : secB V es i j k = decide (far V ej.1 ek.1 < far V ei.1 ek.1) := by
          unfold secB
          rw [tg_eq hei, tg_eq hej, tg_eq hek]
          simp [z1, z2]
        have go : ∀ v : Int32, v = bI (secB V es i j k = true) → ∃ T', (Rn (fun x => x = 2 ∨ x = 3 ∨ x = 6) (fun k => k = 8 ∨ k = 9) S T' ∧ T'.2 8 = nI (max (rg es i) (gr1 V es i j (k + 1))) ∧ T'.2 9 = nI (max (rg es j) (gr2 V es i j (k + 1))) ∧ ∀ k', k' < k + 1 → T'.1 6 k' = bI (secB V es i j k' = true)) ∧ r_part_128 (r_part_25 F) (nI q) (nI i) (nI j) (nI k) (nI (far V ei.1 ek.1)) (nI (far V ej.1 ek.1)) (nI k) v T3 = r_part_25 F (nI q) (nI i) (nI j) (nI (k + 1)) T' := by
          intro v hvv
          unfold r_part_128
          rw [wr_ok (show k < m_len 6 by rw [len6]; omega) (by omega), bind_s, hvv, nar_bI]
          generalize hT4 : ((up2 T3.1 6 k (bI (secB V es i j k = true)), T3.2) : MS) = T4
          have d4 : Rn (fun x => x = 2 ∨ x = 3 ∨ x = 6) (fun k => k = 8 ∨ k = 9) S T4 := by rw [← hT4]; exact d3.tr (Rn.up (Or.inr (Or.inr rfl)))
          obtain ⟨rwd, rpd⟩ := base T4 d4
          have f4 : T4.2 = T.2 := by rw [← hT4]; exact f3
          have r4 : ∀ k', k' < k + 1 → T4.1 6 k' = bI (secB V es i j k' = true) := rows T4 (fun k' hk' => by
            rw [← hT4]
            show up2 T3.1 6 k _ 6 k' = _
            rw [up2_n (fun y => hk' y.2), r3, up2_n (fun y => hk' y.2)]) (by rw [← hT4]; exact up2_s)
          unfold r_part_143 r_part_176 r_part_198
          simp only [rpd.t1 hq hLk, bind_s, nI_add, f4, j2, j3, nI_1, pf_1]
          by_cases y : far V ej.1 ek.1 < far V ei.1 ek.1
          · rw [sb, decide_eq_true y, if_pos rfl] at gg1 gg2
            simp only [if_neg (nI_ge y (by omega)), if_pos (nI_lt y (show far V ei.1 ek.1 < 2 ^ 31 by omega))]
            by_cases u : far V ej.1 ek.1 + ek.2.1 ≤ max (rg es j) (gr2 V es i j k)
            · rw [if_pos (nI_le u (by omega))]
              refine ⟨T4, ⟨d4, ?_, ?_, r4⟩, rfl⟩
              · rw [f4, j2, gg1]
              · rw [f4, j3, gg2]
                congr 1
                omega
            · rw [if_neg (nI_ge (by omega) (by omega))]
              refine ⟨_, ⟨d4.tr (Rn.pf (Or.inr rfl)), ?_, ?_, r4⟩, rfl⟩
              · rw [pf_n (by omega), f4, j2, gg1]
              · rw [pf_s, gg2]
                congr 1
                omega
          · rw [sb, decide_eq_false y, if_neg (by decide)] at gg1 gg2
            simp only [if_pos (nI_le (show far V ei.1 ek.1 ≤ far V ej.1 ek.1 by omega) (by omega)), if_neg (nI_nlt (show far V ei.1 ek.1 ≤ far V ej.1 ek.1 by omega) (by omega))]
            by_cases u : far V ei.1 ek.1 + ek.2.1 ≤ max (rg es i) (gr1 V es i j k)
            · rw [if_pos (nI_le u (by omega))]
              refine ⟨T4, ⟨d4, ?_, ?_, r4⟩, rfl⟩
              · rw [f4, j2, gg1]
                congr 1
                omega
              · rw [f4, j3, gg2]
            · rw [if_neg (nI_ge (by omega) (by omega))]
              refine ⟨_, ⟨d4.tr (Rn.pf (Or.inl rfl)), ?_, ?_, r4⟩, rfl⟩
              · rw [pf_s, gg1]
                congr 1
                omega
              · rw [pf_n (by omega), f4, j3, gg2]
        by_cases y : far V ej.1 ek.1 < far V ei.1 ek.1
        · rw [if_neg (nI_ge y (by omega))]
          exact go 1 (by rw [sb, decide_eq_true y]; rfl)
        · rw [if_pos (nI_le (by omega) (by omega))]
          exact go 0 (by rw [sb, decide_eq_false y]; rfl)
  · rw [pf_n (by omega), pf_s, rg_eq hei]
    show _ = nI (max ei.2.1 0)
    rw [Nat.max_eq_left (Nat.zero_le _)]
  · rw [pf_s, rg_eq hej]
    show _ = nI (max ej.2.1 0)
    rw [Nat.max_eq_left (Nat.zero_le _)]
end PT
