section PBACK
variable {σ : Hp} {S : MS} {own : Nat → Nat} {K SS IS : List Nat} {EK ES EI E : Nat} {eo : Nat → Nat} {lo : Nat → List Nat} {vo : Nat → Vt} {L : List Nat} {V : Vt} {π : Nat → Nat} {g : Gh}
theorem hst_cg {R R' : Nat → Int32} {LS : List Nat} (h : Hst R LS vo) (hv : ∀ s ∈ LS, Vw (vo s)) (e : ∀ x, x < 495854 → R' x = R x) : Hst R' LS vo := by
  obtain ⟨h1, h2, f, h3, h4, h5⟩ := h
  refine ⟨h1, (e 0 (by omega)).trans h2, f, h3, (e 1 (by omega)).trans h4, fun i s hi => (h5 i s hi).cg2 (hv s (List.mem_of_getElem? hi)) (fun x x1 x2 => e _ ?_)⟩
  have := sb_le f i
  unfold sb at this
  omega
/-- a state of the past is copied into the present one -/
theorem c_put3 {s : Nat} (h : PPc own K SS IS EK ES EI eo lo vo σ) (ow : Own own) (wn : Wn σ) (st3 : St σ 3 E L V) (o3 : ∀ x, Fp 3 E L x → own x = 3) (hs : s = 42 ∨ s ∈ K) (hn : Pn σ E L ≤ NXc) (hu : Pu σ E L ≤ UXc) : ∃ σ' E1 L1, kX7_copyFrom σ 3 s = some σ' ∧ St σ' 3 E1 L1 (vo s) ∧ PPc (fun x => if x < σ.nx then own x else 3) K SS IS EK ES EI eo lo vo σ' ∧ (∀ x, Fp 3 E1 L1 x → (if x < σ.nx then own x else 3) = 3) ∧ Df (Fp 3 E L) σ σ' ∧ Wn σ' ∧ Pn σ' E1 L1 ≤ Pn σ E L ∧ Pu σ' E1 L1 ≤ Pu σ E L ∧ ∀ x, x < σ.nx → Fp 3 E1 L1 x → Fp 3 E L x := by
  obtain ⟨e1, e2, e3, e4⟩ := h.2.2.2.2.1 s hs
  have s6 : s = 42 ∨ 60 ≤ s := hs.imp id (h.2.2.2.1.1.2 s)
  obtain ⟨σ', E1, L1, g1, g2, ⟨w1, w2, w3, w4, w5, w6⟩, g4⟩ := c_copyFrom st3 e1 wn (fun x hx hx2 => by have := (e2 x hx).symm.trans (o3 x hx2); omega) e3.2.2.2.1 (by omega) hn hu
  refine ⟨σ', E1, L1, g1, g2, h.df ow wn w2 (fun x _ q => Or.inl (by rw [o3 x q]; omega)) (fun x hx => if_pos hx), fun x hx => ?_, w2, w1, w5, w6, w3⟩
  by_cases z : x < σ.nx
  · rw [if_pos z]; exact o3 x (w3 x z hx)
  · exact if_neg z
set_option maxHeartbeats 1000000 in
/-- the class sets its image -/
theorem c_image (h : PPc own K SS IS EK ES EI eo lo vo σ) (ow : Own own) (wn : Wn σ) (h60 : 60 ≤ σ.nx) (st3 : St σ 3 E L V) (o3 : ∀ x, Fp 3 E L x → own x = 3) (hv : Vw V) (hU : V.U ≤ 780) (h20 : SS.length ≤ 20) (hn : σ.nx + rN σ K EK ES EI eo lo + 100 ≤ NXc) (hu : σ.us + rU σ K EK ES EI eo lo + 10000 ≤ UXc) : ∃ σ' own' EI' eo' lo' vo', kX4_setImage σ 38 3 = some σ' ∧ PPc own' K SS SS EK ES EI' eo' lo' vo' σ' ∧ vo' 42 = V ∧ (∀ x, x ≠ 42 → vo' x = vo x) ∧ (∀ x, x < σ.nx → own' x = own x) ∧ Kf own σ σ' ∧ Wn σ' ∧ σ'.nx + rN σ' K EK ES EI' eo' lo' ≤ σ.nx + rN σ K EK ES EI eo lo ∧ σ'.us + rU σ' K EK ES EI' eo' lo' ≤ σ.us + rU σ K EK ES EI eo lo := by
  have hIK := h.2.2.2.1.2.2.1.2
  obtain ⟨σ1, own1, eo1, lo1, vo1, a1, a2, a3, a4, a5, a6, a7, a8, a9⟩ := h.g.copy ow wn st3 o3 (Or.inl rfl) hv hU (by omega) (by omega)
  have nx1 := a6.1
  have ow1 : Own own1 := fun x hx => (a5 x (by omega)).trans (ow x hx)
  have i1000 := a2.2.1.2.2.1.2.2.2
  obtain ⟨σ2, gI2, b1, b2, b3, b4, b5, b6, b7, b8⟩ := c_unI ow1 IS.length FU 0 σ1 (fun s => decide (s ∈ IS)) (FU_gt (by omega)) (by omega) a7 a2 (fun i s hi => absurd hi (Nat.not_lt_zero _)) (fun s _ q => of_decide_eq_true q)
  obtain ⟨σ3, c1, c2, c3⟩ := b2.2.1.2.2.clear b5
  obtain ⟨d1, d2⟩ := b2.lI (σ' := σ3) (X' := []) (XE' := EI) ow1 b5 c3.1 c2 (Or.inl rfl) List.nodup_nil (fun s hs => by cases hs)
  have wn3 := c3.wn b5
  have ol3 : ∀ x, x < σ1.nx → (if x < σ2.nx then own1 x else 41) = own1 x := fun x hx => if_pos (by omega)
  have rE : 1600 - σ1.ln EI ≤ rN σ1 K EK ES EI eo1 lo1 := by unfold rN; omega
  have ln3 : σ3.ln = σ1.ln := c3.2.2.2.2.trans b8
  have rU1 : 4 * (1600 - σ1.ln EI) ≤ rU σ1 K EK ES EI eo1 lo1 := by unfold rU; omega
  obtain ⟨σ4, own4, EI4, gI4, e1, e2, e3, e4, e5, e6, e7, e8⟩ := c_mkI h20 SS.length FU 0 σ3 _ EI gI2 (FU_gt (by omega)) (by omega) (fun x hx => (ol3 x (by omega)).trans (ow1 x hx)) wn3 (by rw [c3.2.1]; omega) (by rw [List.take_zero]; exact d1) (fun s hs => by rw [b3 s hs, List.take_zero]; simp) (by rw [ln3, c3.2.1, b6]; omega) (by rw [ln3, c3.2.2.1, b7]; omega)
  have k3 : Kf own σ σ3 := ((a6.tr b4 (fun x hx => a5 x hx)).tr d2 (fun x hx => a5 x hx))
  refine ⟨σ4, own4, EI4, eo1, lo1, vo1, ?_, e2.c (fun s hs => decide_eq_true_iff) e3, a3, a4, fun x hx => ?_, ?_, e6, ?_, ?_⟩
  · unfold kX4_setImage
    have b1 : kX4_setImage_10 FU 38 0 σ1 = _ := b1
    have e1 : kX4_setImage_51 FU 38 0 σ3 = some σ4 := e1
    rw [h.k38.2.2.2, bind_s, ckd_ok (h.2.2.2.2.1 42 (Or.inl rfl)).1.ks, a1, bind_s, b1, c1, bind_s, e1]
  · rw [e4 x (by rw [c3.2.1]; omega), ol3 x (by omega), a5 x hx]
  · exact k3.tr e5 (fun x hx => by rw [ol3 x (by omega), a5 x hx])
  · have r4 := rN_cg2 d1 wn3 e5
    have n3 : σ3.nx = σ1.nx := c3.2.1.trans b6
    have s3 : rN σ3 K EK ES EI eo1 lo1 = rN σ1 K EK ES EI eo1 lo1 := by unfold rN pt; rw [ln3]
    have : σ4.nx + rN σ4 K EK ES EI4 eo1 lo1 ≤ σ3.nx + rN σ3 K EK ES EI eo1 lo1 := by
      unfold rN
      rw [r4.1, r4.2.2.1, r4.2.2.2.1]
      omega
    omega
  · have r4 := rN_cg2 d1 wn3 e5
    have n3 : σ3.us = σ1.us := c3.2.2.1.trans b7
    have s3 : rU σ3 K EK ES EI eo1 lo1 = rU σ1 K EK ES EI eo1 lo1 := by unfold rU pv; rw [ln3]
    have : σ4.us + rU σ4 K EK ES EI4 eo1 lo1 ≤ σ3.us + rU σ3 K EK ES EI eo1 lo1 := by
      unfold rU
      rw [r4.2.1, r4.2.2.1, r4.2.2.2.1]
      omega
    omega
set_option maxHeartbeats 1000000 in
/-- the class takes the image's steps for its own -/
theorem c_back (h : PPc own K SS IS EK ES EI eo lo vo σ) (ow : Own own) (wn : Wn σ) (h60 : 60 ≤ σ.nx) (h20 : IS.length ≤ 20) (hn : σ.nx + rN σ K EK ES EI eo lo + 100 ≤ NXc) (hu : σ.us + rU σ K EK ES EI eo lo + 10000 ≤ UXc) : ∃ σ' own' ES', kX4_goBack_10 FU 38 0 σ = some σ' ∧ PPc own' K IS IS EK ES' EI eo lo vo σ' ∧ (∀ x, x < σ.nx → own' x = own x) ∧ Kf own σ σ' ∧ Wn σ' ∧ σ'.nx + rN σ' K EK ES' EI eo lo ≤ σ.nx + rN σ K EK ES EI eo lo ∧ σ'.us + rU σ' K EK ES' EI eo lo ≤ σ.us + rU σ K EK ES EI eo lo := by
  have i1000 := h.2.1.2.1.1.2.2.2
  obtain ⟨σ2, gS2, b1, b2, b3, b4, b5, b6, b7, b8⟩ := c_unS ow SS.length FU 0 σ (fun s => decide (s ∈ SS)) (FU_gt (by omega)) (by omega) wn h.g (fun i s hi => absurd hi (Nat.not_lt_zero _)) (fun s _ q => of_decide_eq_true q)
  obtain ⟨σ3, c1, c2, c3⟩ := b2.2.1.2.1.clear b5
  obtain ⟨d1, d2⟩ := b2.lS (σ' := σ3) (X' := []) (XE' := ES) ow b5 c3.1 c2 (Or.inl rfl) List.nodup_nil (fun s hs => by cases hs)
  have wn3 := c3.wn b5
  have ol3 : ∀ x, x < σ.nx → (if x < σ2.nx then own x else 40) = own x := fun x hx => if_pos (by omega)
  have rE : 1600 - σ.ln ES ≤ rN σ K EK ES EI eo lo := by unfold rN; omega
  have ln3 : σ3.ln = σ.ln := c3.2.2.2.2.trans b8
  have rU1 : 4 * (1600 - σ.ln ES) ≤ rU σ K EK ES EI eo lo := by unfold rU; omega
  obtain ⟨σ4, own4, ES4, gS4, e1, e2, e3, e4, e5, e6, e7, e8⟩ := c_mkS h20 IS.length FU 0 σ3 _ ES gS2 (FU_gt (by omega)) (by omega) (fun x hx => (ol3 x (by omega)).trans (ow x hx)) wn3 (by rw [c3.2.1]; omega) (by rw [List.take_zero]; exact d1) (fun s hs => by rw [b3 s hs, List.take_zero]; simp) (by rw [ln3, c3.2.1, b6]; omega) (by rw [ln3, c3.2.2.1, b7]; omega)
  have k3 : Kf own σ σ3 := b4.tr d2 (fun x hx => rfl)
  refine ⟨σ4, own4, ES4, ?_, e2.c e3 (fun s hs => decide_eq_true_iff), fun x hx => ?_, ?_, e6, ?_, ?_⟩
  · have b1 : kX4_goBack_10 FU 38 0 σ = _ := b1
    have e1 : kX4_goBack_51 FU 38 0 σ3 = some σ4 := e1
    rw [b1, c1, bind_s, e1]
  · rw [e4 x (by rw [c3.2.1]; omega), ol3 x hx]
  · exact k3.tr e5 (fun x hx => ol3 x hx)
  · have r4 := rN_cg2 d1 wn3 e5
    have n3 : σ3.nx = σ.nx := c3.2.1.trans b6
    have s3 : rN σ3 K EK ES EI eo lo = rN σ K EK ES EI eo lo := by unfold rN pt; rw [ln3]
    have : σ4.nx + rN σ4 K EK ES4 EI eo lo ≤ σ3.nx + rN σ3 K EK ES EI eo lo := by
      unfold rN
      rw [r4.1, r4.2.2.1, r4.2.2.2.2]
      omega
    omega
  · have r4 := rN_cg2 d1 wn3 e5
    have n3 : σ3.us = σ.us := c3.2.2.1.trans b7
    have s3 : rU σ3 K EK ES EI eo lo = rU σ K EK ES EI eo lo := by unfold rU pv; rw [ln3]
    have : σ4.us + rU σ4 K EK ES4 EI eo lo ≤ σ3.us + rU σ3 K EK ES EI eo lo := by
      unfold rU
      rw [r4.2.1, r4.2.2.1, r4.2.2.2.2]
      omega
    omega
/-- the latest step leaves -/
theorem c_unstep {SS0 : List Nat} {s : Nat} (h : PPc own K (SS0 ++ [s]) IS EK ES EI eo lo vo σ) (ow : Own own) (wn : Wn σ) (h20 : (SS0 ++ [s]).length ≤ 20) : ∃ σ1, pfz σ 17 711 s 0 = some (sfi σ 711 s 0) ∧ kJx4a65c_remove_915e3 (sfi σ 711 s 0) 40 (nI SS0.length) = some (s, σ1) ∧ (∃ own', PPc own' K SS0 IS EK ES EI eo lo vo σ1 ∧ ∀ x, x < σ.nx → own' x = own x) ∧ Wn σ1 ∧ Kf own σ σ1 ∧ σ1.nx = σ.nx ∧ σ1.us = σ.us ∧ σ1.ln = σ.ln := by
  have sK : s ∈ K := h.2.2.2.1.2.1.2 s (List.mem_append_right _ (List.mem_singleton.mpr rfl))
  obtain ⟨m1, m2, m3⟩ := h.g.mS (b := false) ow sK
  have bf : bI (false = true) = 0 := rfl
  rw [bf] at m1 m2 m3
  have wn0 : Wn (sfi σ 711 s 0) := wn
  have hk : (SS0 ++ [s])[SS0.length]? = some s := by rw [List.getElem?_append_right (Nat.le_refl _), Nat.sub_self]; rfl
  obtain ⟨σ1, g1, g2, g3⟩ := m2.2.1.2.1.rem wn0 hk (by omega)
  have er : (SS0 ++ [s]).eraseIdx SS0.length = SS0 := by
    rw [List.eraseIdx_append_of_length_le (Nat.le_refl _), Nat.sub_self]
    simp
  rw [er] at g2
  have nd := h.2.2.2.1.2.1.1
  rw [List.nodup_append] at nd
  obtain ⟨p1, p2⟩ := m2.lS (σ' := σ1) (X' := SS0) (XE' := ES) ow wn0 g3.1 g2 (Or.inl rfl) nd.1 (fun x hx => h.2.2.2.1.2.1.2 x (List.mem_append_left _ hx))
  refine ⟨σ1, m1, g1, ⟨_, p1.c (fun x hx => ?_) (fun x hx => decide_eq_true_iff), fun x hx => if_pos hx⟩, g3.wn wn0, m3.tr p2 (fun _ _ => rfl), g3.2.1, g3.2.2.1, g3.2.2.2.2⟩
  by_cases z : x = s
  · rw [z, bup_s]
    exact ⟨fun y => (by cases y), fun y => absurd rfl (nd.2.2 s y s (List.mem_singleton.mpr rfl))⟩
  · rw [bup_n z, decide_eq_true_iff, List.mem_append, List.mem_singleton]
    exact ⟨fun y => y.resolve_right z, Or.inl⟩
end PBACK
