section START
variable {σ : Hp} {S : MS} {V : Vt} {g : Gh} {π : Nat → Nat} {E : Nat} {L : List Nat} {dq : Nat → Nat} {fa stays : Bool}
/-- before a search goes anywhere -/
def X0 (V : Vt) (fa : Bool) : Xs := (fun _ => false, 0, 0, [], [(V.R, (if fa = true then 1000 else 0), -1)])
/-- the class's search begins -/
theorem c_start {srt w3 f4 : Int32} {r q n most : Nat} (st : St σ 3 E L V) (tv : Tv σ V) (mo : Mo σ r q) (ck : Ck σ) (lo : Lo E L) (w : Wf V g V.U) (hsr : (srt = 2 ↔ fa = true) ∧ (srt = 0 ↔ stays = true)) (hmost : most = if stays = true then 40 else n) (hq : (f4 = -1 ∧ ∃ w, isW w ∧ w3 = nI w ∧ dq = fun t => apart V.M w (V.W t)) ∨ ∃ f, hs V f ∧ f4 = nI f ∧ dq = fun t => far V f t) : ∃ s, kX6_run σ 29 srt w3 f4 (nI n) = kX6_run_168 FU 29 0 s ∧ CX σ V E L dq fa stays most n 0 [] s (X0 V fa) := by
  have u := w.u
  unfold kX6_run kX6_run_21 kX6_run_34 kX6_run_58
  have n29 : ∀ a ∈ L, a ≠ 29 := fun a ha => by
    have := lo a (Or.inr (Or.inr ⟨a, ha, Nat.le_refl _, Nat.le_add_right _ _⟩))
    omega
  -- the straight part
  have c1 : Ck (sfi σ 603 29 w3) := ck
  rw [ck.pf, bind_s, c1.pf, bind_s]
  have two : ∀ Y1 Y2 : Option (Int32 × Hp), (if srt = 2 then Y1 else Y2) = if fa = true then Y1 else Y2 := fun Y1 Y2 => by
    by_cases z : srt = 2
    · rw [if_pos z, if_pos (hsr.1.mp z)]
    · rw [if_neg z, if_neg (fun y => z (hsr.1.mpr y))]
  have zero : ∀ Y1 Y2 : Option (Int32 × Hp), (if srt = 0 then Y1 else Y2) = if stays = true then Y1 else Y2 := fun Y1 Y2 => by
    by_cases z : srt = 0
    · rw [if_pos z, if_pos (hsr.2.mp z)]
    · rw [if_neg z, if_neg (fun y => z (hsr.2.mpr y))]
  have head : ∃ s1 : Hp, (if srt = 2 then (pfz (sfi (sfi σ 603 29 w3) 604 29 f4) 16 605 29 1).bind (fun σ36 => if srt = 0 then (pfz σ36 16 606 29 1).bind (fun σ33 => (pfi σ33 16 607 29 (nI n)).bind (fun σ34 => (gfi σ34 16 606 29).bind (fun v35 => if v35 = 0 then kX6_run_58 29 29 (nI n) σ34 else kX6_run_58 29 29 40 σ34))) else (pfz σ36 16 606 29 0).bind (fun σ33 => (pfi σ33 16 607 29 (nI n)).bind (fun σ34 => (gfi σ34 16 606 29).bind (fun v35 => if v35 = 0 then kX6_run_58 29 29 (nI n) σ34 else kX6_run_58 29 29 40 σ34)))) else (pfz (sfi (sfi σ 603 29 w3) 604 29 f4) 16 605 29 0).bind (fun σ36 => if srt = 0 then (pfz σ36 16 606 29 1).bind (fun σ33 => (pfi σ33 16 607 29 (nI n)).bind (fun σ34 => (gfi σ34 16 606 29).bind (fun v35 => if v35 = 0 then kX6_run_58 29 29 (nI n) σ34 else kX6_run_58 29 29 40 σ34))) else (pfz σ36 16 606 29 0).bind (fun σ33 => (pfi σ33 16 607 29 (nI n)).bind (fun σ34 => (gfi σ34 16 606 29).bind (fun v35 => if v35 = 0 then kX6_run_58 29 29 (nI n) σ34 else kX6_run_58 29 29 40 σ34))))) = kX6_run_58 29 29 (nI most) s1 ∧ Sf L σ s1 ∧ Mo s1 r q ∧ s1.ar = σ.ar ∧ s1.fi 603 29 = w3 ∧ s1.fi 604 29 = f4 ∧ s1.fi 605 29 = bI (fa = true) ∧ s1.fi 606 29 = bI (stays = true) ∧ s1.fi 607 29 = nI n := by
    rw [two]
    have p605 : ∀ v : Int32, v = 0 ∨ v = 1 → pfz (sfi (sfi σ 603 29 w3) 604 29 f4) 16 605 29 v = some (sfi (sfi (sfi σ 603 29 w3) 604 29 f4) 605 29 v) := fun v hv => by
      rcases hv with rfl | rfl
      · exact pfz_0 ck.1.1
      · exact pfz_1 ck.1.1
    have p606 : ∀ v u : Int32, u = 0 ∨ u = 1 → pfz (sfi (sfi (sfi σ 603 29 w3) 604 29 f4) 605 29 v) 16 606 29 u = some (sfi (sfi (sfi (sfi σ 603 29 w3) 604 29 f4) 605 29 v) 606 29 u) := fun v u hu => by
      rcases hu with rfl | rfl
      · exact pfz_0 ck.1.1
      · exact pfz_1 ck.1.1
    have fin : ∀ v u : Int32, v = bI (fa = true) → u = bI (stays = true) → ∃ s1 : Hp, ((pfi (sfi (sfi (sfi (sfi σ 603 29 w3) 604 29 f4) 605 29 v) 606 29 u) 16 607 29 (nI n)).bind (fun σ34 => (gfi σ34 16 606 29).bind (fun v35 => if v35 = 0 then kX6_run_58 29 29 (nI n) σ34 else kX6_run_58 29 29 40 σ34))) = kX6_run_58 29 29 (nI most) s1 ∧ Sf L σ s1 ∧ Mo s1 r q ∧ s1.ar = σ.ar ∧ s1.fi 603 29 = w3 ∧ s1.fi 604 29 = f4 ∧ s1.fi 605 29 = bI (fa = true) ∧ s1.fi 606 29 = bI (stays = true) ∧ s1.fi 607 29 = nI n := fun v u hv hu => by
      have cA : Ck (sfi (sfi (sfi (sfi σ 603 29 w3) 604 29 f4) 605 29 v) 606 29 u) := ck
      have cB : Ck (sfi (sfi (sfi (sfi (sfi σ 603 29 w3) 604 29 f4) 605 29 v) 606 29 u) 607 29 (nI n)) := ck
      rw [cA.pf, bind_s, cB.i, bind_s]
      refine ⟨sfi (sfi (sfi (sfi (sfi σ 603 29 w3) 604 29 f4) 605 29 v) 606 29 u) 607 29 (nI n), ?_, (((Sf.o.tr Sf.o).tr Sf.o).tr Sf.o).tr Sf.o, mo, rfl, ?_, ?_, ?_, ?_, ?_⟩
      · have e6 : (sfi (sfi (sfi (sfi (sfi σ 603 29 w3) 604 29 f4) 605 29 v) 606 29 u) 607 29 (nI n)).fi 606 29 = bI (stays = true) := by rw [fi_sfi, if_neg (by decide), fi_sfi, if_pos ⟨rfl, rfl⟩, hu]
        rw [e6, bI_0', hmost]
        cases stays with
        | true => rw [if_neg (by decide), if_pos rfl]; rfl
        | false => rw [if_pos (by decide), if_neg (by decide)]
      · rw [fi_sfi, if_neg (by decide), fi_sfi, if_neg (by decide), fi_sfi, if_neg (by decide), fi_sfi, if_neg (by decide), fi_sfi, if_pos ⟨rfl, rfl⟩]
      · rw [fi_sfi, if_neg (by decide), fi_sfi, if_neg (by decide), fi_sfi, if_neg (by decide), fi_sfi, if_pos ⟨rfl, rfl⟩]
      · rw [fi_sfi, if_neg (by decide), fi_sfi, if_neg (by decide), fi_sfi, if_pos ⟨rfl, rfl⟩, hv]
      · rw [fi_sfi, if_neg (by decide), fi_sfi, if_pos ⟨rfl, rfl⟩, hu]
      · rw [fi_sfi, if_pos ⟨rfl, rfl⟩]
    cases fa with
    | true =>
      rw [if_pos rfl, p605 1 (Or.inr rfl), bind_s, zero]
      cases stays with
      | true => rw [if_pos rfl, p606 1 1 (Or.inr rfl), bind_s]; exact fin 1 1 rfl rfl
      | false => rw [if_neg (by decide), p606 1 0 (Or.inl rfl), bind_s]; exact fin 1 0 rfl rfl
    | false =>
      rw [if_neg (by decide), p605 0 (Or.inl rfl), bind_s, zero]
      cases stays with
      | true => rw [if_pos rfl, p606 0 1 (Or.inr rfl), bind_s]; exact fin 0 1 rfl rfl
      | false => rw [if_neg (by decide), p606 0 0 (Or.inl rfl), bind_s]; exact fin 0 0 rfl rfl
  obtain ⟨s1, h1, sf1, mo1, ar1, f603, f604, f605, f606, f607⟩ := head
  have ck1 : Ck s1 := ck.sf sf1
  -- counts to zero, the measured ones forgotten
  have mid : ∃ s2 : Hp, kX6_run_58 29 29 (nI most) s1 = kX6_run_102 FU 29 0 s2 ∧ Sf L σ s2 ∧ Mo s2 r q ∧ (∀ j, j < 40 → s2.ar 30 j = -1) ∧ (∀ i, 603 ≤ i → i ≤ 607 → s2.fi i 29 = s1.fi i 29) ∧ s2.fi 608 29 = nI most ∧ s2.fi 617 29 = 1 ∧ s2.fi 613 29 = 0 ∧ s2.fi 614 29 = 0 ∧ s2.fi 615 29 = 0 ∧ s2.fi 616 29 = 0 ∧ s2.fi 609 29 = 0 := by
    unfold kX6_run_58
    obtain ⟨a1, ha1⟩ : ∃ a1, sfi s1 608 29 (nI most) = a1 := ⟨_, rfl⟩
    have ca1 : Ck a1 := by rw [← ha1]; exact ck1
    obtain ⟨a2, ha2⟩ : ∃ a2, sfi a1 617 29 1 = a2 := ⟨_, rfl⟩
    have ca2 : Ck a2 := by rw [← ha2]; exact ca1
    obtain ⟨a3, ha3⟩ : ∃ a3, sfi a2 613 29 0 = a3 := ⟨_, rfl⟩
    have ca3 : Ck a3 := by rw [← ha3]; exact ca2
    obtain ⟨a4, ha4⟩ : ∃ a4, sfi a3 614 29 0 = a4 := ⟨_, rfl⟩
    have ca4 : Ck a4 := by rw [← ha4]; exact ca3
    obtain ⟨a5, ha5⟩ : ∃ a5, sfi a4 615 29 0 = a5 := ⟨_, rfl⟩
    have ca5 : Ck a5 := by rw [← ha5]; exact ca4
    obtain ⟨a6, ha6⟩ : ∃ a6, sfi a5 616 29 0 = a6 := ⟨_, rfl⟩
    have ca6 : Ck a6 := by rw [← ha6]; exact ca5
    obtain ⟨a7, ha7⟩ : ∃ a7, sfi a6 609 29 0 = a7 := ⟨_, rfl⟩
    have ca7 : Ck a7 := by rw [← ha7]; exact ca6
    obtain ⟨s2, g1, g2, g3, g4⟩ := c_fill (σ := a7) (a := 30) (v := -1) ca7.1.2.1 ca7.2.1.1
    have pz : pfz a1 16 617 29 1 = some a2 := by rw [← ha2]; exact pfz_1 ca1.1.1
    rw [ck1.pf, bind_s, ha1, pz, bind_s, ca2.pf, bind_s, ha3, ca3.pf, bind_s, ha4, ca4.pf, bind_s, ha5, ca5.pf, bind_s, ha6, ca6.pf, bind_s, ha7, ca7.k, bind_s, g1, bind_s]
    have sfa : Sf L σ a7 := by
      rw [← ha7, ← ha6, ← ha5, ← ha4, ← ha3, ← ha2, ← ha1]
      exact ((((((sf1.tr Sf.o).tr Sf.o).tr Sf.o).tr Sf.o).tr Sf.o).tr Sf.o).tr Sf.o
    have sfb : Sf L a7 s2 := ⟨⟨g2.1.1, g2.1.2.1, g2.1.2.2.2.1, g2.1.2.2.2.2.1, g2.1.2.2.2.2.2⟩, fun i x _ => by rw [g2.1.2.2.1], fun x _ hx => (g2.2 x (by omega)).2, fun i x _ _ => by rw [g3]⟩
    have moa : Mo a7 r q := by rw [← ha7, ← ha6, ← ha5, ← ha4, ← ha3, ← ha2, ← ha1]; exact mo1
    have val : ∀ i, a7.fi i 29 = if i = 609 then 0 else if i = 616 then 0 else if i = 615 then 0 else if i = 614 then 0 else if i = 613 then 0 else if i = 617 then 1 else if i = 608 then nI most else s1.fi i 29 := fun i => by
      rw [← ha7, ← ha6, ← ha5, ← ha4, ← ha3, ← ha2, ← ha1]
      simp only [fi_sfi, and_true]
    refine ⟨s2, rfl, sfa.tr sfb, ?_, g4, fun i h1 h2 => ?_, ?_, ?_, ?_, ?_, ?_, ?_, ?_⟩
    · unfold Mo; rw [g2.1.1, g2.1.2.1, g2.1.2.2.1]; exact moa
    · rw [g3, val, if_neg (by omega), if_neg (by omega), if_neg (by omega), if_neg (by omega), if_neg (by omega), if_neg (by omega), if_neg (by omega)]
    all_goals (rw [g3, val]; rfl)
  obtain ⟨s2, h2, sf2, mo2, k30, fk, f608, f617, f613, f614, f615, f616, f609⟩ := mid
  -- no page waits
  have st2 := st.sf lo sf2
  have ck2 := ck.sf sf2
  have pages : ∀ (m F n : Nat) (s : Hp), m < F → n + m = V.U → Sf L σ s → s.fr = s2.fr → s.ar = s2.ar → (∀ i, s.fi i 29 = s2.fi i 29) → (∀ p a : Nat, p < n → L[p]? = some a → s.fi 311 a = 0) → ∃ s', kX6_run_102 F 29 (nI n) s = kX6_run_102 1 29 (nI V.U) s' ∧ Sf L σ s' ∧ s'.fr = s2.fr ∧ s'.ar = s2.ar ∧ (∀ i, s'.fi i 29 = s2.fi i 29) ∧ ∀ p a : Nat, p < V.U → L[p]? = some a → s'.fi 311 a = 0 := by
    intro m
    induction m with
    | zero =>
      intro F n s hF hn sf fr ar fi pg
      obtain ⟨F, rfl⟩ : ∃ F', F = F' + 1 := ⟨F - 1, by omega⟩
      have : n = V.U := by omega
      subst this
      refine ⟨s, ?_, sf, fr, ar, fi, pg⟩
      have sts := st.sf lo sf
      have cks := ck.sf sf
      rw [kX6_run_102.eq_2, kX6_run_102.eq_2]
      simp only [cks.s, sts.u, bind_s]
      rw [if_pos (show nI V.U ≤ nI V.U from nI_le (Nat.le_refl _) (by omega)), if_pos (show nI V.U ≤ nI V.U from nI_le (Nat.le_refl _) (by omega))]
    | succ m ih =>
      intro F n s hF hn sf fr ar fi pg
      obtain ⟨F, rfl⟩ : ∃ F', F = F' + 1 := ⟨F - 1, by omega⟩
      have sts := st.sf lo sf
      have cks := ck.sf sf
      obtain ⟨b, hb, pcb, hat⟩ := sts.pg (p := n) (by omega)
      have b29 := n29 b (List.mem_of_getElem? hb)
      have pz : pfz s 13 311 b 0 = some (sfi s 311 b 0) := pfz_0 pcb.1.1
      obtain ⟨s', k1, k2⟩ := ih F (n + 1) (sfi s 311 b 0) (by omega) (by omega) (sf.tr (Sf.p (by omega) (List.mem_of_getElem? hb))) (by rw [fr_sfi]; exact fr) (by rw [ar_sfi]; exact ar) (fun i => by rw [fi_sfi, if_neg (by omega)]; exact fi i) (fun p a hp ha => by
        rw [fi_sfi]
        by_cases z : a = b
        · rw [if_pos ⟨rfl, z⟩]
        · rw [if_neg (fun y => z y.2)]
          refine pg p a ?_ ha
          have : p ≠ n := fun y => z (by rw [y, hb] at ha; cases ha; rfl)
          omega)
      refine ⟨s', ?_, k2⟩
      rw [kX6_run_102.eq_2, cks.s, bind_s, sts.u, bind_s, if_neg (nI_ge (by omega) (by omega)), bind_s, sts.cs, hat, bind_s, pz, bind_s, nI_1]
      exact k1
  obtain ⟨s3, h3, sf3, fr3, ar3, fi3, pg3⟩ := pages V.U FU 0 s2 (FU_gt (by omega)) (by omega) sf2 rfl rfl (fun _ => rfl) (fun p a hp => absurd hp (Nat.not_lt_zero _))
  have st3 := st.sf lo sf3
  have ck3 := ck.sf sf3
  have e3 : ∀ i, 603 ≤ i → i ≤ 607 → s3.fi i 29 = s1.fi i 29 := fun i a b => (fi3 i).trans (fk i a b)
  have cx3 : CX σ V E L dq fa stays most n 0 [] s3 (fun _ => false, 0, 0, [], []) := by
    refine ⟨⟨st3, tv.sf sf3, ⟨r, q, ?_⟩, ck3, sf3, ?_, ?_⟩, ⟨fun t ht => ?_, ?_, ?_, ?_⟩, ⟨⟨?_, ?_, fun i t h => ?_⟩, ?_, ?_, ?_, fun _ => ?_, fun _ t _ h => ?_⟩, ?_, fun p a hp ha => ?_, fun i x a h => ?_⟩
    · unfold Mo
      rw [sf3.1.1, sf3.1.2.1, fr3, ← sf2.1.1, ← sf2.1.2.1]
      exact mo2
    · rw [fi3]; exact f617
    · rw [e3 604 (by omega) (by omega), e3 603 (by omega) (by omega), f603, f604]; exact hq
    · rw [ar3]; exact k30 t ht
    · rw [fi3]; exact f614
    · rw [fi3]; exact f615
    · rw [fi3]; exact f616
    · rw [List.take_nil, fi3]; exact f613
    · rw [List.take_nil]; exact Nat.zero_le _
    · rw [List.take_nil] at h; cases h
    · rw [e3 605 (by omega) (by omega)]; exact f605
    · rw [e3 606 (by omega) (by omega)]; exact f606
    · rw [fi3]; exact f608
    · rw [e3 607 (by omega) (by omega)]; exact f607
    · rw [List.take_nil] at h; cases h
    · rw [fi3]; exact f609
    · rw [pg3 p a hp ha]; exact (bI_f (fun y => by cases y.1)).symm
    · cases h
  obtain ⟨b, hb, pcb, hat⟩ := st3.pg w.1.1
  obtain ⟨s4, k1, k2⟩ := c_letWait (bd := if fa = true then 1000 else 0) (wy := -1) cx3 lo w.1.1 hb (by intro y; cases y) (by intro y; cases y)
  refine ⟨s4, ?_, k2⟩
  refine (h1.trans (h2.trans (show kX6_run_102 FU 29 0 s2 = _ from h3))).trans ?_
  rw [show (1 : Nat) = 0 + 1 from rfl, kX6_run_102.eq_2, ck3.s, bind_s, st3.u, bind_s, if_pos (nI_le (Nat.le_refl _) (by omega)), bind_s, bind_s, st3.rt, bind_s, st3.cs, hat, bind_s, ck3.i, bind_s, e3 605 (by omega) (by omega), f605, bI_0']
  unfold kX6_run_162
  rw [ck3.c]
  cases fa with
  | false => rw [if_pos (by decide)]; rw [show (0 : Int32) = sg false (if false = true then 1000 else 0) from rfl, k1, bind_s]
  | true => rw [if_neg (by decide)]; rw [show (-1000 : Int32) = sg true (if true = true then 1000 else 0) from rfl, ck3.c, k1, bind_s]
end START
