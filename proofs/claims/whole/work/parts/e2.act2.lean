section ACT2
variable {σ σ' σ1 σ2 : Hp} {S S' S1 : MS} {own : Nat → Nat} {E : Nat} {L : List Nat} {V V1 : Vt} {π : Nat → Nat} {g : Gh} {n : Nat}
/-- what was found is said -/
theorem j_found {C : List Nat} {pd sp lk : Nat} (rq : RQ σ S) (ck : Ck σ) (sj : SJ σ S C pd sp lk) : ∃ σ' S', kX5_addNumbers σ 58 (nI C.length) 32 = some σ' ∧ r_sayFound S = some S' ∧ Qr σ S σ' S' := by
  obtain ⟨-, c40, ⟨-, c32⟩, -, -, -, hc⟩ := sj
  have k32 : σ.kd 32 = 1 ∧ σ.ln 32 = 40 := ⟨ck.1.2.2.2, ck.2.1.2.2⟩
  unfold kX5_addNumbers r_sayFound kX5_addNumbers_10 r_sayFound_13
  rw [if_neg (fun y => (nI_m1 (by omega)).mp y), c32]
  by_cases z : C.length = 0
  · obtain ⟨σ1, S1, a, b, c⟩ := j_say rq 45
    refine ⟨σ1, S1, ?_, ?_, c⟩
    · rw [z]
      show (if nI 0 ≤ 0 then kX5_addNumbers_46 58 (nI 0) σ else _) = _
      unfold kX5_addNumbers_46
      rw [if_pos (by decide), if_pos (by decide), ckd_ok rq.1.1, a, bind_s]
    · rw [z, if_pos (show nI 0 = 0 from Eq.refl _), b, bind_s]
      show (if S1.2 32 ≤ 0 then some S1 else _) = _
      rw [c.2.2.2 32 (by omega), c32, z, if_pos (by decide)]
  · obtain ⟨σ1, S1, a, b, c⟩ := j_nums c40 C.length FU FU 0 σ S (FU_gt (by omega)) (FU_gt (by omega)) (by omega) rq (by omega) k32 c32 hc
    exact ⟨σ1, S1, a, by rw [if_neg (nI_ne0 (by omega) (by omega))]; exact b, c⟩
theorem j_noS (rq : RQ σ S) : ∃ σ' S', kX5_addNumbers σ 58 (-1) 32 = some σ' ∧ r_sayNo S = some S' ∧ Qr σ S σ' S' := by
  obtain ⟨σ1, S1, a, b, c⟩ := j_no rq
  refine ⟨σ1, S1, ?_, b, c⟩
  unfold kX5_addNumbers kX5_addNumbers_10
  rw [if_pos (Eq.refl _), ckd_ok rq.1.1, a, bind_s]
  show (if (-1 : Int32) ≤ 0 then kX5_addNumbers_46 58 (-1) σ1 else _) = _
  unfold kX5_addNumbers_46
  rw [if_pos (by decide), if_neg (by decide)]
theorem Iv.sr (h : Iv σ S E L V π g own) {C : List Nat} (s : SR L σ S σ' S' C) : Iv σ' S' E L V π g own ∧ Kc σ S σ' S' := by
  refine ⟨h.sd (Or.inr ⟨C, s⟩), ?_⟩
  obtain ⟨-, ⟨s1, s2, s3, s4⟩, -, rz⟩ := s
  have d := h.2.2.2.1
  have nl : 53 ∉ L := fun z => by
    have := d.2.1 53 (Or.inr (Or.inr ⟨53, z, ⟨Nat.le_refl _, Nat.le_add_right _ _⟩⟩))
    rw [d.1.f (by omega) (by omega) (by omega)] at this
    omega
  exact ⟨⟨fun i => s4 i 53 (by omega) (Or.inr (Or.inr nl)), s3 55 (by omega) (by omega), s3 56 (by omega) (by omega), s3 57 (by omega) (by omega)⟩, rz.1 28 (by omega), rz.2 50 (by omega)⟩
/-- near -/
theorem act2 (h : Iv σ S E L V π g own) {w : Nat} (hw : isW w) (b : Int32) : ∃ σ' S', kX11_act σ 2 2 (nI w) b = some σ' ∧ r_search S (nI w) b 1 = some S' ∧ Go1 σ S σ' S' := by
  have ck := h.2.2.1.1.1
  unfold kX11_act r_search
  rw [if_neg (by decide), if_neg (by decide), if_pos (Eq.refl _), if_neg (by decide), h.lk.f9, bind_s, isMany_eq, bind_s, isManyN_eq, bind_s]
  unfold kX11_act_152 r_search_21 r_search_26 r_search_50
  by_cases q : (1 : Int32) ≤ b ∧ b ≤ 40
  · obtain ⟨k, k1, k2, rfl⟩ := rng (a := 1) (b := 40) (by omega) (by omega) q
    obtain ⟨σ1, S1, C, a1, a2, a3⟩ := j_near (fa := false) (srt := 1) (w3 := nI w) (f4 := -1) (x1 := nI w) (x2 := -1) h.jc ck ⟨k1, k2⟩ (Eq.refl _) (Or.inl ⟨Eq.refl _, Eq.refl _, w, hw, Eq.refl _, Eq.refl _, Eq.refl _⟩)
    obtain ⟨S3, e1, e2⟩ := Option.bind_eq_some_iff.mp a2
    have e2 : r_findBest S3 (nI k) 0 = some S1 := e2
    obtain ⟨i, kc⟩ := h.sr a3
    obtain ⟨⟨pd, sp, lk, sj⟩, -⟩ := a3
    obtain ⟨σ2, S2, b1, b2, b3⟩ := j_found i.rq i.2.2.1.1.1 sj
    refine ⟨σ2, S2, ?_, ?_, Go1.rep ⟨⟨E, L, V, π, g, own, i⟩, kc⟩ b3⟩
    · rw [bI_t q, if_neg (show ¬ (1 : Int32) = 0 by decide), h.lk.f5, bind_s, ckd_ok ck.1.1, a1, bd2_s, i.lk.f5, bind_s, gfr_ok i.2.2.1.1.1.1.1, bind_s, i.2.2.1.1.1.2.2.2.2.2.2.2, ckd_ok i.rq.1.1, b1, bind_s]
    · rw [bI_t q, if_neg (show ¬ (1 : Int32) = 0 by decide), e1, bind_s, if_neg (by decide), e2, bind_s, b2, bind_s]
  · obtain ⟨σ2, S2, b1, b2, b3⟩ := j_noS h.rq
    refine ⟨σ2, S2, ?_, ?_, h.g1.rep b3⟩
    · rw [bI_f q, if_pos (Eq.refl _), h.lk.f5, bind_s, gfr_ok ck.1.1, bind_s, ck.2.2.2.2.2.2.2, ckd_ok h.rq.1.1, b1, bind_s]
    · rw [bI_f q, if_pos (Eq.refl _), b2, bind_s]
/-- within -/
theorem act3 (h : Iv σ S E L V π g own) {w : Nat} (hw : isW w) (b : Int32) : ∃ σ' S', kX11_act σ 2 3 (nI w) b = some σ' ∧ r_search S (nI w) b 0 = some S' ∧ Go1 σ S σ' S' := by
  have ck := h.2.2.1.1.1
  unfold kX11_act r_search r_isFarNumber
  rw [if_neg (by decide), if_neg (by decide), if_neg (by decide), if_pos (Eq.refl _), if_pos (Eq.refl _), h.lk.f9, bind_s, isFar_eq, bind_s, r_isIn_b, bind_s]
  unfold kX11_act_191 r_search_21 r_search_26 r_search_50
  by_cases q : (0 : Int32) ≤ b ∧ b ≤ 99
  · obtain ⟨k, k2, rfl⟩ := far_nat q
    obtain ⟨σ1, S1, C, a1, a2, a3⟩ := j_within (w3 := nI w) (f4 := -1) (x1 := nI w) (x2 := -1) h.jc ck k2 (Or.inl ⟨Eq.refl _, Eq.refl _, w, hw, Eq.refl _, Eq.refl _, Eq.refl _⟩)
    obtain ⟨S3, e1, e2⟩ := Option.bind_eq_some_iff.mp a2
    obtain ⟨i, kc⟩ := h.sr a3
    obtain ⟨⟨pd, sp, lk, sj⟩, -⟩ := a3
    obtain ⟨σ2, S2, b1, b2, b3⟩ := j_found i.rq i.2.2.1.1.1 sj
    refine ⟨σ2, S2, ?_, ?_, Go1.rep ⟨⟨E, L, V, π, g, own, i⟩, kc⟩ b3⟩
    · rw [bI_t q, if_neg (show ¬ (1 : Int32) = 0 by decide), h.lk.f5, bind_s, ckd_ok ck.1.1, a1, bd2_s, i.lk.f5, bind_s, gfr_ok i.2.2.1.1.1.1.1, bind_s, i.2.2.1.1.1.2.2.2.2.2.2.2, ckd_ok i.rq.1.1, b1, bind_s]
    · rw [bI_t q, show zb 1 = some 1 from Eq.refl _, bind_s, if_neg (show ¬ (1 : Int32) = 0 by decide), e1, bind_s, if_pos (Eq.refl _), e2, bind_s, b2, bind_s]
  · obtain ⟨σ2, S2, b1, b2, b3⟩ := j_noS h.rq
    refine ⟨σ2, S2, ?_, ?_, h.g1.rep b3⟩
    · rw [bI_f q, if_pos (Eq.refl _), h.lk.f5, bind_s, gfr_ok ck.1.1, bind_s, ck.2.2.2.2.2.2.2, ckd_ok h.rq.1.1, b1, bind_s]
    · rw [bI_f q, show zb 0 = some 0 from Eq.refl _, bind_s, if_pos (Eq.refl _), b2, bind_s]
/-- a command as both sides hold it -/
def CmdOK (c a b a' b' : Int32) : Prop := ((c = 0 ∨ c = 1) ∧ a = a' ∧ ∃ w, isW w ∧ a = nI w) ∨ ((c = 2 ∨ c = 3) ∧ a = a' ∧ b = b' ∧ ∃ w, isW w ∧ a = nI w) ∨ (c = 4 ∧ a = a' ∧ ∃ k, k ≤ 3 ∧ a = nI k) ∨ (c = 5 ∧ a = a') ∨ (c = 6 ∧ a = a' ∧ b = b' ∧ (∃ w, isW w ∧ a = nI w) ∧ ∃ v, isW v ∧ b = nI v) ∨ c = 7
theorem j_act (h : Iv σ S E L V π g own) {i : Nat} (hi : i < 75) {c a b : Int32} (hc : S.1 28 (3 * i) = c) (ok : CmdOK c a b (S.1 28 (3 * i + 1)) (S.1 28 (3 * i + 2))) : ∃ σ' S', kX11_act σ 2 c a b = some σ' ∧ r_doOne S (nI (3 * i)) = some S' ∧ Go1 σ S σ' S' := by
  have l28 : m_len 28 = 300 := Eq.refl _
  unfold r_doOne
  rw [nI_1, rd_ok (show 3 * i + 1 < m_len 28 by omega) (by omega), bind_s, rd_ok (show 3 * i < m_len 28 by omega) (by omega), bind_s, hc]
  have r2 : rd S 28 (nI (3 * i) + 2) = some (S.1 28 (3 * i + 2)) := by
    rw [show (2 : Int32) = nI 2 from Eq.refl _, nI_add, rd_ok (show 3 * i + 2 < m_len 28 by omega) (by omega)]
  have r0' : rd S 28 (nI (3 * i)) = some c := by rw [rd_ok (show 3 * i < m_len 28 by omega) (by omega), hc]
  rcases ok with ⟨rfl | rfl, e, w, hw, rfl⟩ | ⟨rfl | rfl, e, f, w, hw, rfl⟩ | ⟨rfl, e, k, hk, rfl⟩ | ⟨rfl, e⟩ | ⟨rfl, e, f, ⟨w, hw, rfl⟩, v, hv, rfl⟩ | rfl
  · rw [if_pos (Eq.refl _), ← e]
    exact act0 h hw b
  · rw [if_neg (by decide), if_pos (Eq.refl _), ← e]
    exact act1 h hw b
  · obtain ⟨σ1, S1, x1, x2, x3⟩ := act2 h hw b
    refine ⟨σ1, S1, x1, ?_, x3⟩
    unfold r_doOne_100 r_doOne_125
    rw [if_neg (by decide), if_neg (by decide), if_pos (Eq.refl _), r2, bind_s, r0', bind_s, if_pos (Eq.refl _), ← e, ← f, x2, bind_s]
  · obtain ⟨σ1, S1, x1, x2, x3⟩ := act3 h hw b
    refine ⟨σ1, S1, x1, ?_, x3⟩
    unfold r_doOne_100 r_doOne_125
    rw [if_neg (by decide), if_neg (by decide), if_neg (by decide), if_pos (Eq.refl _), r2, bind_s, r0', bind_s, if_neg (by decide), ← e, ← f, x2, bind_s]
  · rw [if_neg (by decide), if_neg (by decide), if_neg (by decide), if_neg (by decide), if_pos (Eq.refl _), ← e]
    exact act4 h hk b
  · rw [if_neg (by decide), if_neg (by decide), if_neg (by decide), if_neg (by decide), if_neg (by decide), if_pos (Eq.refl _), ← e]
    exact act5 h a b
  · rw [if_neg (by decide), if_neg (by decide), if_neg (by decide), if_neg (by decide), if_neg (by decide), if_neg (by decide), if_pos (Eq.refl _), r2, bind_s, ← e, ← f]
    exact act6 h hw hv
  · rw [if_neg (by decide), if_neg (by decide), if_neg (by decide), if_neg (by decide), if_neg (by decide), if_neg (by decide), if_neg (by decide)]
    exact act7 h a b
end ACT2
