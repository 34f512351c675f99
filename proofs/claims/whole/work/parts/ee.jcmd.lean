section JCMD
variable {σ σ' σ1 σ2 : Hp} {S S' S1 : MS} {n q t : Nat} {f : Nat → Int32}
/-- the rows of the commands -/
def Kz (σ : Hp) : Prop := (σ.kd 55 = 1 ∧ σ.kd 56 = 1 ∧ σ.kd 57 = 1) ∧ (σ.ln 55 = 75 ∧ σ.ln 56 = 75 ∧ σ.ln 57 = 75) ∧ (σ.fr 2 53 = 55 ∧ σ.fr 3 53 = 56 ∧ σ.fr 4 53 = 57)
theorem Kz.dn {A : Nat → Prop} (h : Kz σ) (k : Dn A σ σ') : Kz σ' := by
  obtain ⟨s1, s2, s3, -⟩ := k.1
  unfold Kz
  rw [s1, s2, s3]
  exact h
/-- what the reading of arguments leaves, of command i -/
def K2 (i : Nat) (σ σ' : Hp) : Prop := Dn (fun x => x = 53 ∨ x = 56 ∨ x = 57) σ σ' ∧ (∀ k, k ≠ 6 → k ≠ 7 → k ≠ 8 → k ≠ 9 → σ'.fi k 53 = σ.fi k 53) ∧ ∀ a, a = 56 ∨ a = 57 → ∀ k, k ≠ i → σ'.ar a k = σ.ar a k
def R2 (i : Nat) (S S' : MS) : Prop := (∀ j, j ≠ 28 → S'.1 j = S.1 j) ∧ (∀ k, k ≠ 3 * i + 1 → k ≠ 3 * i + 2 → S'.1 28 k = S.1 28 k) ∧ ∀ k, k ≠ 45 → k ≠ 46 → k ≠ 47 → S'.2 k = S.2 k
theorem K2.tr {i : Nat} (h : K2 i σ σ1) (k : K2 i σ1 σ') : K2 i σ σ' := ⟨h.1.tr k.1, fun j a b c d => (k.2.1 j a b c d).trans (h.2.1 j a b c d), fun a ha j hj => (k.2.2 a ha j hj).trans (h.2.2 a ha j hj)⟩
theorem R2.tr {i : Nat} (h : R2 i S S1) (k : R2 i S1 S') : R2 i S S' := ⟨fun j q => (k.1 j q).trans (h.1 j q), fun j q1 q2 => (k.2.1 j q1 q2).trans (h.2.1 j q1 q2), fun j q1 q2 q3 => (k.2.2 j q1 q2 q3).trans (h.2.2 j q1 q2 q3)⟩
theorem R2.rfl {i : Nat} : R2 i S S := ⟨fun _ _ => Eq.refl _, fun _ _ _ => Eq.refl _, fun _ _ _ _ => Eq.refl _⟩
theorem K2.rfl {i : Nat} : K2 i σ σ := ⟨Dn.rfl, fun _ _ _ _ _ => Eq.refl _, fun _ _ _ _ => Eq.refl _⟩
theorem K2.sa {i a : Nat} {v : Int32} (ha : a = 56 ∨ a = 57) : K2 i σ (sar σ a i v) := by
  refine ⟨by rw [sar_saw]; exact Dn.xa (by omega), fun k _ _ _ _ => by rw [fi_sar], fun b hb k hk => by rw [ar_sar, if_neg (fun z => hk z.2)]⟩
theorem Rw.r2 {x i : Nat} (h : Rw x S S') (hx : x = 3 * i + 1 ∨ x = 3 * i + 2) : R2 i S S' := ⟨h.1, fun k h1 h2 => h.2.1 k (by omega), h.2.2⟩
theorem D69.k2 {i : Nat} (h : D69 σ σ') : K2 i σ σ' := ⟨h.1.mono (fun x hx => Or.inl hx), h.2, fun a ha k _ => by rw [(h.1.2 a (by omega)).2]⟩
theorem Kr.sa (h : Kr f n σ) {a i : Nat} {v : Int32} (ha : a ≠ 54) : Kr f n (sar σ a i v) := by
  unfold Kr
  rw [kd_sar, ln_sar, fr_sar, fi_sar]
  exact ⟨h.1, h.2.1, h.2.2.1, fun j hj => by rw [ar_sar, if_neg (fun z => ha z.1.symm)]; exact h.2.2.2 j hj⟩
theorem Atp.sa (h : Atp f n σ S t) {a i : Nat} {v : Int32} (ha : a ≠ 54) : Atp f n (sar σ a i v) S t := by
  obtain ⟨a1, a2, a3, a4, a5, a6, a7⟩ := h
  exact ⟨a1.sa ha, a2, a3, by rw [fi_sar]; exact a4, a5, by rw [fi_sar]; exact a6, a7⟩
theorem Wg.sa (h : Wg σ S) {a i : Nat} {v : Int32} : Wg (sar σ a i v) S := by
  unfold Wg
  rw [fi_sar]
  exact h
/-- an argument is read and kept -/
theorem Tkn.st {p x a i : Nat} {v r : Int32} (h : Tkn f n σ S p x v σ' r S') (ha : a = 56 ∨ a = 57) (hx : x = 3 * i + 1 ∨ x = 3 * i + 2) (hi : i < 75) (z : Kz σ) : ast σ' 1 a (nI i) v = some (sar σ' a i v) ∧ K2 i σ (sar σ' a i v) ∧ R2 i S S' ∧ (sar σ' a i v).ar a i = v ∧ (∀ b, b ≠ 53 → b ≠ a → (sar σ' a i v).ar b = σ.ar b) ∧ (∀ k, k ≠ x → S'.1 28 k = S.1 28 k) ∧ ((r = 1 ∧ v = S'.1 28 x ∧ ∃ t, p < t ∧ Atp f n (sar σ' a i v) S' t) ∨ (r = 0 ∧ Wg (sar σ' a i v) S')) := by
  obtain ⟨h1, h2, h3⟩ := h
  have z' := z.dn h1.1
  obtain ⟨⟨z1, z2, z3⟩, ⟨z4, z5, z6⟩, -⟩ := z'
  refine ⟨?_, h1.k2.tr (K2.sa ha), h2.r2 hx, by rw [ar_sar, if_pos ⟨rfl, rfl⟩], fun b hb hba => ?_, h2.2.1, ?_⟩
  · rcases ha with rfl | rfl
    · exact ast_ok z2 (by rw [z5]; exact hi) (by omega)
    · exact ast_ok z3 (by rw [z6]; exact hi) (by omega)
  · have e : (sar σ' a i v).ar b = σ'.ar b := funext fun j => by rw [ar_sar, if_neg (fun w => hba w.1)]
    rw [e, (h1.1.2 b hb).2]
  · rcases h3 with ⟨a1, a2, t, a3, a4⟩ | ⟨a1, a2⟩
    · exact Or.inl ⟨a1, a2, t, a3, a4.sa (by omega)⟩
    · exact Or.inr ⟨a1, a2.sa⟩
/-- one argument, a word -/
theorem j_c80 {p i : Nat} (hi : i < 75) (z : Kz σ) (h : Atp f n σ S p) : ∃ σ' r S', kX0_readCommand_80 53 (nI i) σ = some σ' ∧ r_readCommand_72 (nI (3 * i)) S = some (r, S') ∧ K2 i σ σ' ∧ R2 i S S' ∧ ((r = 1 ∧ (∃ t, p < t ∧ Atp f n σ' S' t) ∧ σ'.ar 56 i = S'.1 28 (3 * i + 1) ∧ ∃ w, isW w ∧ σ'.ar 56 i = nI w) ∨ (r = 0 ∧ Wg σ' S')) := by
  obtain ⟨v, σ1, r, S1, a, b, c, d⟩ := j_rword (x := 3 * i + 1) (by omega) h
  obtain ⟨e1, e2, e3, e4, e5, e6, e7⟩ := c.st (a := 56) (Or.inl rfl) (Or.inl rfl) hi z
  have rr : zb r = some r := by
    rcases e7 with ⟨rfl, -⟩ | ⟨rfl, -⟩ <;> rfl
  unfold kX0_readCommand_80 r_readCommand_72
  rw [gfr_ok h.1.1.1, bind_s, z.2.2.2.1, ckd_ok h.1.1.1, a, bd2_s, e1, bind_s, nI_1, b, bd2_s, rr, bind_s]
  refine ⟨_, r, S1, rfl, rfl, e2, e3, ?_⟩
  rcases e7 with ⟨f1, f2, f3⟩ | ⟨f1, f2⟩
  · refine Or.inl ⟨f1, f3, by rw [e4]; exact f2, ?_⟩
    rw [e4]
    exact d f1
  · exact Or.inr ⟨f1, f2⟩
theorem c_numw (h : σ.kd 53 = 10) (w : σ.fi 6 53 ≠ -1) : kX0_readNumber σ 53 = some (-1, σ) := by
  unfold kX0_readNumber
  rw [gfi_ok h, bind_s, if_neg w]
theorem c_wordw (h : σ.kd 53 = 10) (w : σ.fi 6 53 ≠ -1) : kX0_readWord σ 53 = some (-1, σ) := by
  unfold kX0_readWord
  rw [gfi_ok h, bind_s, if_neg w]
/-- two arguments: a word and a number -/
theorem j_c93 {p i : Nat} (hi : i < 75) (z : Kz σ) (h : Atp f n σ S p) : ∃ σ' r S', kX0_readCommand_93 53 (nI i) σ = some σ' ∧ r_readCommand_80 (nI (3 * i)) S = some (r, S') ∧ K2 i σ σ' ∧ R2 i S S' ∧ ((r = 1 ∧ (∃ t, p < t ∧ Atp f n σ' S' t) ∧ σ'.ar 56 i = S'.1 28 (3 * i + 1) ∧ σ'.ar 57 i = S'.1 28 (3 * i + 2) ∧ ∃ w, isW w ∧ σ'.ar 56 i = nI w) ∨ (r = 0 ∧ Wg σ' S')) := by
  obtain ⟨v, σ1, r, S1, a, b, c, d⟩ := j_rword (x := 3 * i + 1) (by omega) h
  obtain ⟨e1, e2, e3, e4, e5, e6, e7⟩ := c.st (a := 56) (Or.inl rfl) (Or.inl rfl) hi z
  have z1 : Kz (sar σ1 56 i v) := z.dn e2.1
  have k1 : (sar σ1 56 i v).kd 53 = 10 := by rw [e2.1.1.1]; exact h.1.1.1
  unfold kX0_readCommand_93 r_readCommand_80
  rw [gfr_ok h.1.1.1, bind_s, z.2.2.2.1, ckd_ok h.1.1.1, a, bd2_s, e1, bind_s, gfr_ok k1, bind_s, z1.2.2.2.2, ckd_ok k1, nI_1, b, bd2_s]
  rcases e7 with ⟨rfl, f2, t, f3, f4⟩ | ⟨rfl, f2⟩
  · obtain ⟨v2, σ2, r2, S2, a2, b2, c2⟩ := j_number (x := 3 * i + 2) (by omega) f4
    obtain ⟨g1, g2, g3, g4, g5, g6, g7⟩ := c2.st (a := 57) (Or.inr rfl) (Or.inr rfl) hi z1
    rw [if_neg (show ¬ (1 : Int32) = 0 by decide), a2, bd2_s, g1, bind_s, show (2 : Int32) = nI 2 from rfl, nI_add, b2, bd2_s]
    rcases g7 with ⟨rfl, y2, t2, y3, y4⟩ | ⟨rfl, y2⟩
    · rw [if_neg (show ¬ (1 : Int32) = 0 by decide), zb_1, bind_s]
      have e56 : (sar σ2 57 i v2).ar 56 i = v := by rw [g5 56 (by omega) (by omega), e4]
      refine ⟨_, 1, S2, rfl, rfl, e2.tr g2, e3.tr g3, Or.inl ⟨rfl, ⟨t2, by omega, y4⟩, ?_, by rw [g4]; exact y2, ?_⟩⟩
      · rw [e56, g6 _ (by omega)]; exact f2
      · rw [e56]; exact d rfl
    · rw [if_pos rfl, zb_0, bind_s]
      exact ⟨_, 0, S2, rfl, rfl, e2.tr g2, e3.tr g3, Or.inr ⟨rfl, y2⟩⟩
  · have z2 : Kz (sar σ1 56 i v) := z1
    rw [if_pos rfl, zb_0, bind_s, c_numw k1 (by rw [f2.1]; exact f2.2), bd2_s, ast_ok z2.1.2.2 (by rw [z2.2.1.2.2]; exact hi) (by omega), bind_s]
    exact ⟨_, 0, S1, rfl, rfl, e2.tr (K2.sa (Or.inr rfl)), e3, Or.inr ⟨rfl, f2.sa⟩⟩
/-- what the reading of command i leaves -/
def Ky (i : Nat) (σ σ' : Hp) : Prop := Dn (fun x => x = 53 ∨ x = 55 ∨ x = 56 ∨ x = 57) σ σ' ∧ (∀ k, k ≠ 6 → k ≠ 7 → k ≠ 8 → k ≠ 9 → σ'.fi k 53 = σ.fi k 53) ∧ ∀ a, a = 55 ∨ a = 56 ∨ a = 57 → ∀ k, k ≠ i → σ'.ar a k = σ.ar a k
def Rx (i : Nat) (S S' : MS) : Prop := (∀ j, j ≠ 28 → S'.1 j = S.1 j) ∧ (∀ k, k < 3 * i → S'.1 28 k = S.1 28 k) ∧ ∀ k, k ≠ 45 → k ≠ 46 → k ≠ 47 → S'.2 k = S.2 k
theorem K2.ky {i : Nat} (h : Ky i σ σ1) (k : K2 i σ1 σ') : Ky i σ σ' := ⟨h.1.tr (k.1.mono (fun x hx => by omega)), fun j a b c d => (k.2.1 j a b c d).trans (h.2.1 j a b c d), fun a ha j hj => by
  rcases ha with rfl | ha
  · rw [(k.1.2 55 (by omega)).2]; exact h.2.2 55 (Or.inl (Eq.refl _)) j hj
  · exact (k.2.2 a ha j hj).trans (h.2.2 a (Or.inr ha) j hj)⟩
theorem R2.rx {i : Nat} (h : Rx i S S1) (k : R2 i S1 S') : Rx i S S' := ⟨fun j q => (k.1 j q).trans (h.1 j q), fun j q => (k.2.1 j (by omega) (by omega)).trans (h.2.1 j q), fun j q1 q2 q3 => (k.2.2 j q1 q2 q3).trans (h.2.2 j q1 q2 q3)⟩
/-- the reading of a command, from p on -/
def CR (f : Nat → Int32) (n : Nat) (σ : Hp) (S : MS) (p i : Nat) (σ' : Hp) (r : Int32) (S' : MS) : Prop := Ky i σ σ' ∧ Rx i S S' ∧ ((r = 1 ∧ (∃ t, p + 4 ≤ t ∧ Atp f n σ' S' t) ∧ S'.1 28 (3 * i) = σ'.ar 55 i ∧ CmdOK (σ'.ar 55 i) (σ'.ar 56 i) (σ'.ar 57 i) (S'.1 28 (3 * i + 1)) (S'.1 28 (3 * i + 2))) ∨ (r = 0 ∧ Wg σ' S'))
/-- the arguments of command k -/
theorem j_cargs {p p0 i k : Nat} (hi : i < 75) (hk : k < 8) (z : Kz σ) (h : Atp f n σ S p) (hp : p0 + 3 ≤ p) (h7 : k = 7 → p0 + 4 ≤ p) (e55 : σ.ar 55 i = nI k) (e28 : S.1 28 (3 * i) = nI k) {σ0 : Hp} {S0 : MS} (k0 : Ky i σ0 σ) (x0 : Rx i S0 S) : ∃ σ' r S', (if nI k = 0 then kX0_readCommand_80 53 (nI i) σ else if nI k = 1 then kX0_readCommand_80 53 (nI i) σ else if nI k = 2 then kX0_readCommand_93 53 (nI i) σ else if nI k = 3 then kX0_readCommand_93 53 (nI i) σ else if nI k = 4 then (gfr σ 10 3 53).bind (fun v16 => ckd σ 53 10 (bd2 (kX0_readMeasure σ 53) (fun v17 σ18 => (ast σ18 1 v16 (nI i) v17).bind (fun σ19 => some σ19)))) else if nI k = 5 then (gfr σ 10 3 53).bind (fun v20 => ckd σ 53 10 (bd2 (kX0_readNumber σ 53) (fun v21 σ22 => (ast σ22 1 v20 (nI i) v21).bind (fun σ23 => some σ23)))) else if nI k = 6 then (gfr σ 10 3 53).bind (fun v24 => ckd σ 53 10 (bd2 (kX0_readWord σ 53) (fun v25 σ26 => (ast σ26 1 v24 (nI i) v25).bind (fun σ27 => (gfr σ27 10 4 53).bind (fun v28 => ckd σ27 53 10 (bd2 (kX0_readWord σ27 53) (fun v29 σ30 => (ast σ30 1 v28 (nI i) v29).bind (fun σ31 => some σ31)))))))) else if nI k = 7 then some σ else (gfi σ 10 8 53).bind (fun v32 => (pfi σ 10 6 53 v32).bind (fun σ33 => some σ33))) = some σ' ∧ (if nI k = 0 then r_readCommand_72 (nI (3 * i)) S else if nI k = 1 then r_readCommand_72 (nI (3 * i)) S else if nI k = 2 then r_readCommand_80 (nI (3 * i)) S else if nI k = 3 then r_readCommand_80 (nI (3 * i)) S else if nI k = 4 then bd2 (r_readName S (nI (3 * i) + 1)) (fun v12 S13 => (zb v12).bind (fun w => some (w, S13))) else if nI k = 5 then bd2 (r_readNumber S (nI (3 * i) + 1)) (fun v14 S15 => (zb v14).bind (fun w => some (w, S15))) else if nI k = 6 then bd2 (r_readWord S (nI (3 * i) + 1)) (fun v16 S17 => if v16 = 0 then (zb 0).bind (fun w => some (w, S17)) else bd2 (r_readWord S17 (nI (3 * i) + 2)) (fun v18 S19 => if v18 = 0 then (zb 0).bind (fun w => some (w, S19)) else (zb 1).bind (fun w => some (w, S19)))) else if nI k = 7 then (zb 1).bind (fun w => some (w, S)) else bd2 (r_isWrong S ) (fun v20 S21 => (zb v20).bind (fun w => some (w, S21)))) = some (r, S') ∧ CR f n σ0 S0 p0 i σ' r S' := by
  have nn : ∀ a : Nat, a < 8 → a ≠ k → ¬ nI k = nI a := fun a ha hak e => hak ((nI_eq (by omega) (by omega)).mp e).symm
  have fin : ∀ σ' r S', K2 i σ σ' → R2 i S S' → ((r = 1 ∧ (∃ t, p0 + 4 ≤ t ∧ Atp f n σ' S' t) ∧ CmdOK (nI k) (σ'.ar 56 i) (σ'.ar 57 i) (S'.1 28 (3 * i + 1)) (S'.1 28 (3 * i + 2))) ∨ (r = 0 ∧ Wg σ' S')) → CR f n σ0 S0 p0 i σ' r S' := fun σ' r S' a b c => by
    refine ⟨a.ky k0, b.rx x0, ?_⟩
    have e1 : σ'.ar 55 i = nI k := by rw [(a.1.2 55 (by omega)).2]; exact e55
    have e2 : S'.1 28 (3 * i) = nI k := by rw [b.2.1 _ (by omega) (by omega)]; exact e28
    rcases c with ⟨c1, c2, c3⟩ | c
    · exact Or.inl ⟨c1, c2, by rw [e1, e2], by rw [e1]; exact c3⟩
    · exact Or.inr c
  by_cases c01 : k = 0 ∨ k = 1
  · obtain ⟨σ', r, S', a, b, c, d, e⟩ := j_c80 hi z h
    refine ⟨σ', r, S', ?_, ?_, fin σ' r S' c d ?_⟩
    · rcases c01 with rfl | rfl
      · rw [if_pos (show nI 0 = 0 from rfl)]; exact a
      · rw [if_neg (show ¬ nI 1 = 0 from nn 0 (by omega) (by omega)), if_pos (show nI 1 = 1 from rfl)]; exact a
    · rcases c01 with rfl | rfl
      · rw [if_pos (show nI 0 = 0 from rfl)]; exact b
      · rw [if_neg (show ¬ nI 1 = 0 from nn 0 (by omega) (by omega)), if_pos (show nI 1 = 1 from rfl)]; exact b
    · rcases e with ⟨e1, ⟨t, e2, e3⟩, e4, e5⟩ | e
      · refine Or.inl ⟨e1, ⟨t, by omega, e3⟩, Or.inl ⟨?_, e4, e5⟩⟩
        rcases c01 with rfl | rfl
        · exact Or.inl rfl
        · exact Or.inr rfl
      · exact Or.inr e
  have n0 : ¬ nI k = 0 := nn 0 (by omega) (by omega)
  have n1 : ¬ nI k = 1 := nn 1 (by omega) (by omega)
  rw [if_neg n0, if_neg n0, if_neg n1, if_neg n1]
  by_cases c23 : k = 2 ∨ k = 3
  · obtain ⟨σ', r, S', a, b, c, d, e⟩ := j_c93 hi z h
    refine ⟨σ', r, S', ?_, ?_, fin σ' r S' c d ?_⟩
    · rcases c23 with rfl | rfl
      · rw [if_pos (show nI 2 = 2 from rfl)]; exact a
      · rw [if_neg (show ¬ nI 3 = 2 from nn 2 (by omega) (by omega)), if_pos (show nI 3 = 3 from rfl)]; exact a
    · rcases c23 with rfl | rfl
      · rw [if_pos (show nI 2 = 2 from rfl)]; exact b
      · rw [if_neg (show ¬ nI 3 = 2 from nn 2 (by omega) (by omega)), if_pos (show nI 3 = 3 from rfl)]; exact b
    · rcases e with ⟨e1, ⟨t, e2, e3⟩, e4, e5, e6⟩ | e
      · refine Or.inl ⟨e1, ⟨t, by omega, e3⟩, Or.inr (Or.inl ⟨?_, e4, e5, e6⟩)⟩
        rcases c23 with rfl | rfl
        · exact Or.inl rfl
        · exact Or.inr rfl
      · exact Or.inr e
  have n2 : ¬ nI k = 2 := nn 2 (by omega) (by omega)
  have n3 : ¬ nI k = 3 := nn 3 (by omega) (by omega)
  rw [if_neg n2, if_neg n2, if_neg n3, if_neg n3]
  by_cases c4 : k = 4
  · obtain ⟨v, σ1, r, S1, a, b, c, d⟩ := j_rname (x := 3 * i + 1) (by omega) h
    obtain ⟨e1, e2, e3, e4, e5, e6, e7⟩ := c.st (a := 56) (Or.inl rfl) (Or.inl rfl) hi z
    have rr : zb r = some r := by
      rcases e7 with ⟨rfl, -⟩ | ⟨rfl, -⟩ <;> rfl
    rw [if_pos (by rw [c4]; rfl), if_pos (by rw [c4]; rfl), gfr_ok h.1.1.1, bind_s, z.2.2.2.1, ckd_ok h.1.1.1, a, bd2_s, e1, bind_s, nI_1, b, bd2_s, rr, bind_s]
    refine ⟨_, r, S1, rfl, rfl, fin _ r S1 e2 e3 ?_⟩
    rcases e7 with ⟨f1, f2, t, f3, f4⟩ | f
    · refine Or.inl ⟨f1, ⟨t, by omega, f4⟩, Or.inr (Or.inr (Or.inl ⟨by rw [c4]; rfl, by rw [e4]; exact f2, by rw [e4]; exact d f1⟩))⟩
    · exact Or.inr f
  have n4 : ¬ nI k = 4 := nn 4 (by omega) (by omega)
  rw [if_neg n4, if_neg n4]
  by_cases c5 : k = 5
  · obtain ⟨v, σ1, r, S1, a, b, c⟩ := j_number (x := 3 * i + 1) (by omega) h
    obtain ⟨e1, e2, e3, e4, e5, e6, e7⟩ := c.st (a := 56) (Or.inl rfl) (Or.inl rfl) hi z
    have rr : zb r = some r := by
      rcases e7 with ⟨rfl, -⟩ | ⟨rfl, -⟩ <;> rfl
    rw [if_pos (by rw [c5]; rfl), if_pos (by rw [c5]; rfl), gfr_ok h.1.1.1, bind_s, z.2.2.2.1, ckd_ok h.1.1.1, a, bd2_s, e1, bind_s, nI_1, b, bd2_s, rr, bind_s]
    refine ⟨_, r, S1, rfl, rfl, fin _ r S1 e2 e3 ?_⟩
    rcases e7 with ⟨f1, f2, t, f3, f4⟩ | f
    · refine Or.inl ⟨f1, ⟨t, by omega, f4⟩, Or.inr (Or.inr (Or.inr (Or.inl ⟨by rw [c5]; rfl, by rw [e4]; exact f2⟩)))⟩
    · exact Or.inr f
  have n5 : ¬ nI k = 5 := nn 5 (by omega) (by omega)
  rw [if_neg n5, if_neg n5]
  by_cases c6 : k = 6
  · obtain ⟨v, σ1, r, S1, a, b, c, d⟩ := j_rword (x := 3 * i + 1) (by omega) h
    obtain ⟨e1, e2, e3, e4, e5, e6, e7⟩ := c.st (a := 56) (Or.inl rfl) (Or.inl rfl) hi z
    have z1 : Kz (sar σ1 56 i v) := z.dn e2.1
    have k1 : (sar σ1 56 i v).kd 53 = 10 := by rw [e2.1.1.1]; exact h.1.1.1
    rw [if_pos (by rw [c6]; rfl), if_pos (by rw [c6]; rfl), gfr_ok h.1.1.1, bind_s, z.2.2.2.1, ckd_ok h.1.1.1, a, bd2_s, e1, bind_s, gfr_ok k1, bind_s, z1.2.2.2.2, ckd_ok k1, nI_1, b, bd2_s]
    rcases e7 with ⟨rfl, f2, t, f3, f4⟩ | ⟨rfl, f2⟩
    · obtain ⟨v2, σ2, r2, S2, a2, b2, c2, d2⟩ := j_rword (x := 3 * i + 2) (by omega) f4
      obtain ⟨g1, g2, g3, g4, g5, g6, g7⟩ := c2.st (a := 57) (Or.inr rfl) (Or.inr rfl) hi z1
      rw [if_neg (show ¬ (1 : Int32) = 0 by decide), a2, bd2_s, g1, bind_s, show (2 : Int32) = nI 2 from rfl, nI_add, b2, bd2_s]
      rcases g7 with ⟨rfl, y2, t2, y3, y4⟩ | ⟨rfl, y2⟩
      · rw [if_neg (show ¬ (1 : Int32) = 0 by decide), zb_1, bind_s]
        have e56 : (sar σ2 57 i v2).ar 56 i = v := by rw [g5 56 (by omega) (by omega), e4]
        refine ⟨_, 1, S2, rfl, rfl, fin _ 1 S2 (e2.tr g2) (e3.tr g3) (Or.inl ⟨rfl, ⟨t2, by omega, y4⟩, Or.inr (Or.inr (Or.inr (Or.inr (Or.inl ⟨by rw [c6]; rfl, ?_, by rw [g4]; exact y2, by rw [e56]; exact d rfl, by rw [g4]; exact d2 rfl⟩))))⟩)⟩
        rw [e56, g6 _ (by omega)]; exact f2
      · rw [if_pos rfl, zb_0, bind_s]
        exact ⟨_, 0, S2, rfl, rfl, fin _ 0 S2 (e2.tr g2) (e3.tr g3) (Or.inr ⟨rfl, y2⟩)⟩
    · rw [if_pos rfl, zb_0, bind_s, c_wordw k1 (by rw [f2.1]; exact f2.2), bd2_s, ast_ok z1.1.2.2 (by rw [z1.2.1.2.2]; exact hi) (by omega), bind_s]
      exact ⟨_, 0, S1, rfl, rfl, fin _ 0 S1 (e2.tr (K2.sa (Or.inr rfl))) e3 (Or.inr ⟨rfl, f2.sa⟩)⟩
  have n6 : ¬ nI k = 6 := nn 6 (by omega) (by omega)
  have c7 : k = 7 := by omega
  rw [if_neg n6, if_neg n6, if_pos (by rw [c7]; rfl), if_pos (by rw [c7]; rfl), zb_1, bind_s]
  exact ⟨σ, 1, S, rfl, rfl, fin σ 1 S K2.rfl R2.rfl (Or.inl ⟨rfl, ⟨p, h7 c7, h⟩, Or.inr (Or.inr (Or.inr (Or.inr (Or.inr (by rw [c7]; rfl)))))⟩)⟩
end JCMD
