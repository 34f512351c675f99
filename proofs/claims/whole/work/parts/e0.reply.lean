section REPL
variable {σ σ' σ1 σ2 : Hp} {S S' : MS} {own : Nat → Nat} {E : Nat} {L : List Nat} {V : Vt} {π : Nat → Nat} {g : Gh} {n : Nat}
def Ar (x : Nat) : Prop := 58 ≤ x ∧ x ≤ 59
/-- replies go on: nothing else changes -/
def Qr (σ : Hp) (S : MS) (σ' : Hp) (S' : MS) : Prop := RQ σ' S' ∧ Dn Ar σ σ' ∧ (∀ j, j ≠ 29 → S'.1 j = S.1 j) ∧ ∀ k, k ≠ 52 → S'.2 k = S.2 k
theorem Qr.rfl (h : RQ σ S) : Qr σ S σ S := ⟨h, ⟨⟨Eq.refl _, Eq.refl _, Eq.refl _, Eq.refl _, Eq.refl _, Eq.refl _⟩, fun _ _ => ⟨fun _ => Eq.refl _, Eq.refl _⟩⟩, fun _ _ => Eq.refl _, fun _ _ => Eq.refl _⟩
theorem Qr.tr {S1 : MS} (h : Qr σ S σ1 S1) (k : Qr σ1 S1 σ' S') : Qr σ S σ' S' := ⟨k.1, h.2.1.tr k.2.1, fun j hj => (k.2.2.1 j hj).trans (h.2.2.1 j hj), fun j hj => (k.2.2.2 j hj).trans (h.2.2.2 j hj)⟩
theorem Qr.k58 (h : Qr σ S σ' S') : σ'.kd 58 = 15 := h.1.1.1
theorem j_say (h : RQ σ S) (v : Int32) : ∃ σ' S', kX5_addByte σ 58 v = some σ' ∧ r_say S v = some S' ∧ Qr σ S σ' S' := by
  obtain ⟨⟨a1, a2, a3, a4⟩, n, b1, b2, b3, b4⟩ := id h
  unfold kX5_addByte r_say
  rw [gfi_ok a1, bind_s, b2, b3, show (400 : Int32) = nI 400 from rfl]
  by_cases q : n = 400
  · rw [q, if_pos (Int32.le_refl _), if_pos (Eq.refl _)]
    exact ⟨σ, S, Eq.refl _, Eq.refl _, Qr.rfl h⟩
  · have k : (saw σ 59 (upd (σ.ar 59) n v)).kd 58 = 15 := a1
    rw [if_neg (nI_ge (by omega) (by omega)), if_neg (by rw [nI_eq (by omega) (by omega)]; exact q), gfr_ok a1, bind_s, a4, bind_s, ast_saw a2 (by omega) (by omega), bind_s, gfi_ok k, bind_s, fi_saw, b2, nI_1, pfi_ok k, bind_s, wr_ok (show n < m_len 29 by rw [show m_len 29 = 400 from Eq.refl _]; omega) (by omega), bind_s]
    refine ⟨_, _, Eq.refl _, Eq.refl _, ⟨⟨a1, a2, a3, a4⟩, n + 1, by omega, by rw [fi_sfi, if_pos ⟨Eq.refl _, Eq.refl _⟩], ?_, fun i hi => ?_⟩, (Dn.xa ⟨by omega, by omega⟩).xi' ⟨by omega, by omega⟩, fun j hj => up2_r hj, fun k hk => pf_n hk⟩
    · rw [pf_s]
      show S.2 52 + 1 = _
      rw [b3, nI_1]
    · rw [ar_sfi, ar_saw]
      show upd (σ.ar 59) n v i = up2 S.1 29 n v 29 i
      by_cases z : i = n
      · rw [z, upd_s, up2_s]
      · rw [upd_n z, up2_i z]; exact b4 i (by omega)
theorem j_num (h : RQ σ S) {t : Nat} (ht : t ≤ 99) : ∃ σ' S', kX5_addNumber σ 58 (nI t) = some σ' ∧ r_sayNumber S (nI t) = some S' ∧ Qr σ S σ' S' := by
  unfold kX5_addNumber r_sayNumber r_sayNumber_17
  rw [show (99 : Int32) = nI 99 from Eq.refl _, if_pos (nI_le ht (by omega))]
  by_cases q : t ≤ 9
  · obtain ⟨σ1, S1, a, b, c⟩ := j_say h (48 + (nI t - nI t / 10 * 10))
    refine ⟨σ1, S1, ?_, ?_, c⟩
    · unfold kX5_addNumber_20
      rw [if_pos (by rw [show (10 : Int32) = nI 10 from Eq.refl _, nI_ltI (by omega) (by omega)]; omega), ckd_ok h.1.1, a, bind_s]
    · unfold r_sayNumber_37
      rw [if_pos (by rw [show (9 : Int32) = nI 9 from Eq.refl _, nI_leI (by omega) (by omega)]; omega), b, bind_s]
  · obtain ⟨σ1, S1, a, b, c⟩ := j_say h (48 + (nI t / 10 - nI t / 10 / 10 * 10))
    obtain ⟨σ2, S2, a2, b2, c2⟩ := j_say c.1 (48 + (nI t - nI t / 10 * 10))
    refine ⟨σ2, S2, ?_, ?_, c.tr c2⟩
    · unfold kX5_addNumber_20
      rw [if_neg (by rw [show (10 : Int32) = nI 10 from Eq.refl _, nI_ltI (by omega) (by omega)]; omega), ckd_ok h.1.1, a, bind_s, ckd_ok c.k58, a2, bind_s]
    · unfold r_sayNumber_37
      rw [if_neg (by rw [show (9 : Int32) = nI 9 from Eq.refl _, nI_leI (by omega) (by omega)]; omega), b, bind_s, b2, bind_s]
theorem j_no (h : RQ σ S) : ∃ σ' S', kX5_addOk σ 58 0 = some σ' ∧ r_sayNo S = some S' ∧ Qr σ S σ' S' := by
  obtain ⟨σ1, S1, a, b, c⟩ := j_say h 110
  obtain ⟨σ2, S2, a2, b2, c2⟩ := j_say c.1 111
  refine ⟨σ2, S2, ?_, ?_, c.tr c2⟩
  · unfold kX5_addOk kX5_addOk_12 kX5_addOk_27
    rw [if_pos (Eq.refl _), ckd_ok h.1.1, a, bind_s, if_pos (Eq.refl _), ckd_ok c.k58, a2, bind_s]
  · unfold r_sayNo
    rw [b, bind_s, b2, bind_s]
theorem j_ok (h : RQ σ S) : ∃ σ' S', kX5_addOk σ 58 1 = some σ' ∧ r_sayOk S 1 = some S' ∧ Qr σ S σ' S' := by
  obtain ⟨σ1, S1, a, b, c⟩ := j_say h 111
  obtain ⟨σ2, S2, a2, b2, c2⟩ := j_say c.1 107
  refine ⟨σ2, S2, ?_, ?_, c.tr c2⟩
  · unfold kX5_addOk kX5_addOk_12 kX5_addOk_27
    rw [if_neg (show ¬ (1 : Int32) = 0 by decide), ckd_ok h.1.1, a, bind_s, if_neg (show ¬ (1 : Int32) = 0 by decide), ckd_ok c.k58, a2, bind_s]
  · unfold r_sayOk
    rw [if_neg (show ¬ (1 : Int32) = 0 by decide), b, bind_s, b2, bind_s]
theorem j_ok0 (h : RQ σ S) : ∃ σ' S', kX5_addOk σ 58 0 = some σ' ∧ r_sayOk S 0 = some S' ∧ Qr σ S σ' S' := by
  obtain ⟨σ1, S1, a, b, c⟩ := j_no h
  refine ⟨σ1, S1, a, ?_, c⟩
  unfold r_sayOk
  rw [if_pos (Eq.refl _), b, bind_s]
/-- a number or no -/
theorem j_nno (h : RQ σ S) (o : Option Nat) (ho : ∀ t, o = some t → t ≤ 99) : ∃ σ' S', kX5_addNumberOrNo σ 58 (o2i o) = some σ' ∧ r_sayNumberOrNo S (o2i o) = some S' ∧ Qr σ S σ' S' := by
  unfold kX5_addNumberOrNo r_sayNumberOrNo
  cases o with
  | none =>
    obtain ⟨σ1, S1, a, b, c⟩ := j_no h
    exact ⟨σ1, S1, by rw [if_pos (show o2i (none : Option Nat) = -1 from Eq.refl _), ckd_ok h.1.1, a, bind_s], by rw [if_pos (show o2i (none : Option Nat) = -1 from Eq.refl _), b, bind_s], c⟩
  | some t =>
    have t9 := ho t (Eq.refl _)
    obtain ⟨σ1, S1, a, b, c⟩ := j_num h t9
    have : ¬ o2i (some t) = -1 := fun y => (nI_m1 (by omega)).mp y
    have e : o2i (some t) = nI t := Eq.refl _
    exact ⟨σ1, S1, by rw [if_neg this, ckd_ok h.1.1, e, a, bind_s], by rw [if_neg this, e, b, bind_s], c⟩
/-- the found ones, one after another -/
theorem j_nums {C : List Nat} (hC : C.length ≤ 40) : ∀ (m F F' i : Nat) (σ : Hp) (S : MS), m < F → m < F' → i + m = C.length → RQ σ S → 0 < C.length → (σ.kd 32 = 1 ∧ σ.ln 32 = 40) → S.2 32 = nI C.length → (∀ (i t : Nat), C[i]? = some t → t < 40 ∧ σ.ar 32 i = nI t ∧ S.1 18 i = nI t) → ∃ σ' S', kX5_addNumbers_12 F 58 (nI C.length) 32 (nI i) σ = some σ' ∧ r_sayFound_15 F' (nI i) S = some S' ∧ Qr σ S σ' S'
  | m, 0, _, _, _, _, h, _, _, _, _, _, _, _ => absurd h (Nat.not_lt_zero m)
  | m, _ + 1, 0, _, _, _, _, h, _, _, _, _, _, _ => absurd h (Nat.not_lt_zero m)
  | 0, F + 1, F' + 1, i, σ, S, _, _, hi, rq, h0, k32, c32, hc => by
    unfold kX5_addNumbers_12 r_sayFound_15 kX5_addNumbers_46
    rw [c32, if_pos (nI_le (by omega) (by omega)), if_pos (nI_le (by omega) (by omega)), if_neg (nI_ne0 (by omega) (by omega))]
    exact ⟨σ, S, Eq.refl _, Eq.refl _, Qr.rfl rq⟩
  | m + 1, F + 1, F' + 1, i, σ, S, hF, hF', hi, rq, h0, k32, c32, hc => by
    obtain ⟨t, ht⟩ : ∃ t, C[i]? = some t := ⟨C[i]'(by omega), List.getElem?_eq_getElem (by omega)⟩
    have one : ∀ (σ1 : Hp) (S1 : MS), Qr σ S σ1 S1 → ∃ σ' S', kX5_addNumbers_33 (kX5_addNumbers_12 F) 58 (nI C.length) 32 (nI i) σ1 = some σ' ∧ r_sayFound_33 (r_sayFound_15 F') (nI i) S1 = some S' ∧ Qr σ S σ' S' := fun σ1 S1 q => by
      obtain ⟨q1, q2, q3, q4⟩ := q
      have k32' : σ1.kd 32 = 1 ∧ σ1.ln 32 = 40 := by rw [q2.1.1, q2.1.2.1]; exact k32
      have a32 : σ1.ar 32 = σ.ar 32 := (q2.2 32 (by unfold Ar; omega)).2
      have r18 : S1.1 18 = S.1 18 := q3 18 (by omega)
      obtain ⟨t1, t2, t3⟩ := hc i t ht
      obtain ⟨σ2, S2, a, b, c⟩ := j_num q1 (show t ≤ 99 by omega)
      have qq : Qr σ S σ2 S2 := Qr.tr ⟨q1, q2, q3, q4⟩ c
      obtain ⟨σ3, S3, a3, b3, c3⟩ := j_nums hC m F F' (i + 1) σ2 S2 (by omega) (by omega) (by omega) c.1 h0 (by rw [qq.2.1.1.1, qq.2.1.1.2.1]; exact k32) (by rw [qq.2.2.2 32 (by omega)]; exact c32) (fun j s hj => by rw [(qq.2.1.2 32 (by unfold Ar; omega)).2, qq.2.2.1 18 (by omega)]; exact hc j s hj)
      refine ⟨σ3, S3, ?_, ?_, qq.tr c3⟩
      · unfold kX5_addNumbers_33
        rw [ald_ok k32'.1 (by omega) (by omega), bind_s, a32, t2, ckd_ok q1.1.1, a, bind_s, nI_1, a3]
      · unfold r_sayFound_33
        rw [rd_ok (show i < m_len 18 by rw [show m_len 18 = 40 from Eq.refl _]; omega) (by omega), bind_s, r18, t3, b, bind_s, nI_1, b3]
    unfold kX5_addNumbers_12 r_sayFound_15
    rw [c32, if_neg (nI_ge (by omega) (by omega)), if_neg (nI_ge (by omega) (by omega)), aln_ok (Or.inl k32.1), bind_s, k32.2, if_neg (nI_ge (by omega) (by omega))]
    by_cases z : i = 0
    · rw [if_pos (by rw [z]; decide), if_pos (by rw [z]; decide)]
      exact one σ S (Qr.rfl rq)
    · have : ¬ nI i ≤ 0 := by rw [show (0 : Int32) = nI 0 from Eq.refl _, nI_leI (by omega) (by omega)]; omega
      obtain ⟨σ1, S1, a, b, c⟩ := j_say rq 44
      rw [if_neg this, if_neg this, ckd_ok rq.1.1, a, bind_s, b, bind_s]
      exact one σ1 S1 c
end REPL
