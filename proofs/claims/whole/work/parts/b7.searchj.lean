section SEARCHJ
variable {σ : Hp} {S : MS} {V : Vt} {g : Gh} {π : Nat → Nat} {E : Nat} {L : List Nat}
theorem Lk.sf {σ' : Hp} (h : Lk σ) (f : Sf L σ σ') : Lk σ' := by
  have e : ∀ i, σ'.fr i 2 = σ.fr i 2 := fun i => f.2.1 i 2 (by decide)
  unfold Lk
  rw [f.1.1, e, e, e, e, e, e, e, e, e, e]
  exact h
theorem isMany_eq {x : Int32} : kX11_isHowMany σ x = some (bI (1 ≤ x ∧ x ≤ 40)) := (r_isIn_b (S := default) : r_isIn _ x 1 40 = _)
theorem isManyN_eq {x : Int32} : r_isMany S x = some (bI (1 ≤ x ∧ x ≤ 40)) := by
  unfold r_isMany
  rw [r_isIn_b, bind_s, zb_bI]
theorem many_nat {x : Int32} (h : 1 ≤ x ∧ x ≤ 40) : ∃ k, (1 ≤ k ∧ k ≤ 40) ∧ x = nI k := by
  rcases i_or x with q | ⟨t, t1, rfl⟩
  · have : (0 : Int32) ≤ x := Int32.le_trans (by decide) h.1
    exact absurd this (Int32.not_le.mpr q)
  · refine ⟨t, ⟨?_, ?_⟩, rfl⟩
    · exact (nI_leI (a := 1) (by decide) t1).mp h.1
    · exact (nI_leI (b := 40) t1 (by decide)).mp h.2
theorem j_answer {C : List Nat} {pd sp lk : Nat} (h : SJ σ S C pd sp lk) (ck : Ck σ) (x : Int32) : ∃ v, kX6_answer σ 29 x = some v ∧ r_answer S x = some v := by
  obtain ⟨h1, h2, ⟨h3, h4⟩, h5, h6, h7, h8⟩ := h
  unfold kX6_answer r_answer
  by_cases z : x = -1
  · rw [if_pos z, if_pos z, ck.i, bind_s, h3, h4]; exact ⟨_, rfl, rfl⟩
  rw [if_neg z, if_neg z, h4, r_isIn_b, bind_s]
  by_cases y : ∃ i, i < C.length ∧ x = nI i
  · obtain ⟨i, hi, rfl⟩ := y
    obtain ⟨t, ht⟩ : ∃ t, C[i]? = some t := ⟨_, List.getElem?_eq_getElem hi⟩
    obtain ⟨-, t2, t3⟩ := h8 i t ht
    rw [if_neg (nI_pos (by omega)), bI_t ((in_iff (by omega) _).mpr ⟨i, hi, rfl⟩), if_neg (show ¬ (1 : Int32) = 0 by decide), ck.i, bind_s, h3, if_neg (nI_ge hi (by omega)), ck.o, bind_s, ald_ok ck.1.2.2.2 (by rw [ck.2.1.2.2]; omega) (by omega), bind_s, t2, rd_ok (by rw [len17.2.1]; omega) (by omega), bind_s, t3]
    exact ⟨_, rfl, rfl⟩
  · rw [bI_f (fun v => y ((in_iff (by omega) _).mp v)), if_pos rfl]
    by_cases v : x < 0
    · rw [if_pos v]; exact ⟨_, rfl, rfl⟩
    · rcases i_or x with q | ⟨t, t1, rfl⟩
      · exact absurd q v
      · rw [if_neg v, ck.i, bind_s, h3, if_pos (nI_le (Nat.le_of_not_lt (fun q => y ⟨t, q, rfl⟩)) (by omega))]; exact ⟨_, rfl, rfl⟩
/-- a search ran, or nothing was done -/
def Sd (L : List Nat) (σ : Hp) (S : MS) (σ' : Hp) (S' : MS) : Prop := (σ' = σ ∧ S' = S) ∨ ∃ C, SR L σ S σ' S' C
theorem j_nearW (J : JC σ S E L V π g) (ck : Ck σ) (fa : Bool) (x y z : Int32) : ∃ v σ' S', (kX2_lettersIn σ 14 x).bind (fun v2 => if v2 = -1 then some ((-1 : Int32), σ) else (kX11_isHowMany σ y).bind (fun v3 => if v3 = 0 then some (-1, σ) else (gfr σ 21 1105 2).bind (fun v4 => ckd σ v4 16 (bd2 (kX6_run σ v4 (if fa = true then 2 else 1) x (-1) y) (fun v5 σ6 => (gfr σ6 21 1105 2).bind (fun v7 => ckd σ6 v7 16 ((kX6_answer σ6 v7 z).bind (fun v8 => some (v8, σ6))))))))) = some (v, σ') ∧ (r_isWord S x).bind (fun v1 => if v1 = 0 then some ((-1 : Int32), S) else (r_isMany S y).bind (fun v2 => if v2 = 0 then some (-1, S) else (r_begin S x (-1)).bind (fun S3 => (r_findBest S3 y (bI (fa = true))).bind (fun S4 => (r_answer S4 z).bind (fun v5 => some (v5, S4)))))) = some (v, S') ∧ Sd L σ S σ' S' := by
  have lk := J.1.2.2.2.2.2
  rcases w_or x with e | ⟨w, hw, rfl⟩
  · rw [c_lnone e, bind_s, if_pos rfl, r_isWord_none e, bind_s, if_pos rfl]
    exact ⟨_, _, _, rfl, rfl, Or.inl ⟨rfl, rfl⟩⟩
  rw [c_lw hw, bind_s, if_neg (cl_ne hw), r_isWord_w hw, bind_s, if_neg (show ¬ (1 : Int32) = 0 by decide), isMany_eq, bind_s, isManyN_eq, bind_s, bI_0', bI_0']
  by_cases q : 1 ≤ y ∧ y ≤ 40
  · rw [if_neg (not_not_intro q), if_neg (not_not_intro q)]
    obtain ⟨k, hk, rfl⟩ := many_nat q
    obtain ⟨σ', S', C, g1, g2, g3⟩ := j_near (fa := fa) (dq := fun t => apart V.M w (V.W t)) (srt := if fa = true then 2 else 1) (w3 := nI w) (f4 := -1) (x1 := nI w) (x2 := -1) J ck hk rfl (Or.inl ⟨rfl, rfl, w, hw, rfl, rfl, rfl⟩)
    obtain ⟨⟨pd, sp, l, sj⟩, sf, mo, rz⟩ := id g3
    have ck' := ck.sf sf
    have lk' := lk.sf sf
    obtain ⟨v, a1, a2⟩ := j_answer sj ck' z
    obtain ⟨S3, b1⟩ : ∃ S3, r_begin S (nI w) (-1) = some S3 := by
      obtain ⟨S3, b, -⟩ := r_begin_eq (S := S) (nI w) (-1)
      exact ⟨S3, b⟩
    rw [b1, bind_s] at g2
    rw [lk.f5, bind_s, ck.c, g1, bd2_s, lk'.f5, bind_s, ck'.c, a1, bind_s, b1, bind_s, g2, bind_s, a2, bind_s]
    exact ⟨_, _, _, rfl, rfl, Or.inr ⟨C, g3⟩⟩
  · rw [if_pos q, if_pos q]
    exact ⟨_, _, _, rfl, rfl, Or.inl ⟨rfl, rfl⟩⟩
theorem j_nearC (J : JC σ S E L V π g) (ck : Ck σ) (x y z : Int32) : ∃ v σ' S', kX11_near σ 2 x y z = some (v, σ') ∧ r_near S x y z = some (v, S') ∧ Sd L σ S σ' S' := by
  have lk := J.1.2.2.2.2.2
  obtain ⟨r, q, mo⟩ := J.1.2.2.2.2.1
  unfold kX11_near r_near
  rw [lk.f1, bind_s, ckd_ok mo.1.1]
  exact j_nearW J ck false x y z
theorem j_farthestC (J : JC σ S E L V π g) (ck : Ck σ) (x y z : Int32) : ∃ v σ' S', kX11_farthest σ 2 x y z = some (v, σ') ∧ r_farthest S x y z = some (v, S') ∧ Sd L σ S σ' S' := by
  have lk := J.1.2.2.2.2.2
  obtain ⟨r, q, mo⟩ := J.1.2.2.2.2.1
  unfold kX11_farthest r_farthest
  rw [lk.f1, bind_s, ckd_ok mo.1.1]
  exact j_nearW J ck true x y z
theorem j_besideC (J : JC σ S E L V π g) (bv : Bv σ S V π) (ck : Ck σ) (x y z : Int32) : ∃ v σ' S', kX11_beside σ 2 x y z = some (v, σ') ∧ r_beside S x y z = some (v, S') ∧ Sd L σ S σ' S' := by
  have lk := J.1.2.2.2.2.2
  have st := J.1.1
  unfold kX11_beside r_beside
  obtain ⟨p, p1, p2, p3⟩ := bv.h x
  rw [lk.f0, bind_s, st.cs, p1, bind_s, p2, bind_s, bI_0', bI_0']
  cases p with
  | false => rw [if_pos (by decide), if_pos (by decide)]; exact ⟨_, _, _, rfl, rfl, Or.inl ⟨rfl, rfl⟩⟩
  | true =>
    obtain ⟨t, rfl, t2⟩ := p3 rfl
    have t40 := t2.1
    rw [if_neg (by decide), if_neg (by decide), isMany_eq, bind_s, isManyN_eq, bind_s, bI_0', bI_0']
    by_cases q : 1 ≤ y ∧ y ≤ 40
    · rw [if_neg (not_not_intro q), if_neg (not_not_intro q)]
      obtain ⟨k, hk, rfl⟩ := many_nat q
      obtain ⟨σ', S', C, g1, g2, g3⟩ := j_near (fa := false) (dq := fun u => far V t u) (srt := 1) (w3 := nI (V.W t)) (f4 := nI t) (x1 := 0) (x2 := nI t) J ck hk rfl (Or.inr ⟨t, t2, rfl, rfl, rfl⟩)
      obtain ⟨⟨pd, sp, l, sj⟩, sf, mo, rz⟩ := id g3
      have ck' := ck.sf sf
      have lk' := lk.sf sf
      obtain ⟨v, a1, a2⟩ := j_answer sj ck' z
      obtain ⟨S3, b1⟩ : ∃ S3, r_begin S 0 (nI t) = some S3 := by
        obtain ⟨S3, b, -⟩ := r_begin_eq (S := S) 0 (nI t)
        exact ⟨S3, b⟩
      rw [b1, bind_s] at g2
      have g2 : r_findBest S3 (nI k) 0 = some S' := g2
      rw [lk.f5, bind_s, bind_s, gfr_ok st.ks, st.1.2.2.1.1, bind_s, ald_ok st.1.1.2.1 (by rw [st.1.2.1.1]; exact t40) (by omega), bind_s, st.1.2.2.2.2.1 t t40, ck.c, g1, bd2_s, lk'.f5, bind_s, ck'.c, a1, bind_s, b1, bind_s, g2, bind_s, a2, bind_s]
      exact ⟨_, _, _, rfl, rfl, Or.inr ⟨C, g3⟩⟩
    · rw [if_pos q, if_pos q]
      exact ⟨_, _, _, rfl, rfl, Or.inl ⟨rfl, rfl⟩⟩
theorem j_withinC (J : JC σ S E L V π g) (ck : Ck σ) (x y z : Int32) : ∃ v σ' S', kX11_within σ 2 x y z = some (v, σ') ∧ r_within S x y z = some (v, S') ∧ Sd L σ S σ' S' := by
  have lk := J.1.2.2.2.2.2
  obtain ⟨r, q, mo⟩ := J.1.2.2.2.2.1
  unfold kX11_within r_within
  rw [lk.f1, bind_s, ckd_ok mo.1.1]
  rcases w_or x with e | ⟨w, hw, rfl⟩
  · rw [c_lnone e, bind_s, if_pos rfl, r_isWord_none e, bind_s, if_pos rfl]
    exact ⟨_, _, _, rfl, rfl, Or.inl ⟨rfl, rfl⟩⟩
  rw [c_lw hw, bind_s, if_neg (cl_ne hw), r_isWord_w hw, bind_s, if_neg (show ¬ (1 : Int32) = 0 by decide), isFar_eq, bind_s, isFarN_eq, bind_s, bI_0', bI_0']
  by_cases q : 0 ≤ y ∧ y ≤ 99
  · rw [if_neg (not_not_intro q), if_neg (not_not_intro q)]
    obtain ⟨k, hk, rfl⟩ := far_nat q
    obtain ⟨σ', S', C, g1, g2, g3⟩ := j_within (dq := fun t => apart V.M w (V.W t)) (w3 := nI w) (f4 := -1) (x1 := nI w) (x2 := -1) J ck hk (Or.inl ⟨rfl, rfl, w, hw, rfl, rfl, rfl⟩)
    obtain ⟨⟨pd, sp, l, sj⟩, sf, mo, rz⟩ := id g3
    have ck' := ck.sf sf
    have lk' := lk.sf sf
    obtain ⟨v, a1, a2⟩ := j_answer sj ck' z
    obtain ⟨S3, b1⟩ : ∃ S3, r_begin S (nI w) (-1) = some S3 := by
      obtain ⟨S3, b, -⟩ := r_begin_eq (S := S) (nI w) (-1)
      exact ⟨S3, b⟩
    rw [b1, bind_s] at g2
    rw [lk.f5, bind_s, ck.c, g1, bd2_s, lk'.f5, bind_s, ck'.c, a1, bind_s, b1, bind_s, g2, bind_s, a2, bind_s]
    exact ⟨_, _, _, rfl, rfl, Or.inr ⟨C, g3⟩⟩
  · rw [if_pos q, if_pos q]
    exact ⟨_, _, _, rfl, rfl, Or.inl ⟨rfl, rfl⟩⟩
theorem j_aroundC (J : JC σ S E L V π g) (bv : Bv σ S V π) (ck : Ck σ) (x y z : Int32) : ∃ v σ' S', kX11_around σ 2 x y z = some (v, σ') ∧ r_around S x y z = some (v, S') ∧ Sd L σ S σ' S' := by
  have lk := J.1.2.2.2.2.2
  have st := J.1.1
  unfold kX11_around r_around
  obtain ⟨p, p1, p2, p3⟩ := bv.h x
  rw [lk.f0, bind_s, st.cs, p1, bind_s, p2, bind_s, bI_0', bI_0']
  cases p with
  | false => rw [if_pos (by decide), if_pos (by decide)]; exact ⟨_, _, _, rfl, rfl, Or.inl ⟨rfl, rfl⟩⟩
  | true =>
    obtain ⟨t, rfl, t2⟩ := p3 rfl
    have t40 := t2.1
    rw [if_neg (by decide), if_neg (by decide), isFar_eq, bind_s, isFarN_eq, bind_s, bI_0', bI_0']
    by_cases q : 0 ≤ y ∧ y ≤ 99
    · rw [if_neg (not_not_intro q), if_neg (not_not_intro q)]
      obtain ⟨k, hk, rfl⟩ := far_nat q
      obtain ⟨σ', S', C, g1, g2, g3⟩ := j_within (dq := fun u => far V t u) (w3 := nI (V.W t)) (f4 := nI t) (x1 := 0) (x2 := nI t) J ck hk (Or.inr ⟨t, t2, rfl, rfl, rfl⟩)
      obtain ⟨⟨pd, sp, l, sj⟩, sf, mo, rz⟩ := id g3
      have ck' := ck.sf sf
      have lk' := lk.sf sf
      obtain ⟨v, a1, a2⟩ := j_answer sj ck' z
      obtain ⟨S3, b1⟩ : ∃ S3, r_begin S 0 (nI t) = some S3 := by
        obtain ⟨S3, b, -⟩ := r_begin_eq (S := S) 0 (nI t)
        exact ⟨S3, b⟩
      rw [b1, bind_s] at g2
      rw [lk.f5, bind_s, bind_s, gfr_ok st.ks, st.1.2.2.1.1, bind_s, ald_ok st.1.1.2.1 (by rw [st.1.2.1.1]; exact t40) (by omega), bind_s, st.1.2.2.2.2.1 t t40, ck.c, g1, bd2_s, lk'.f5, bind_s, ck'.c, a1, bind_s, b1, bind_s, g2, bind_s, a2, bind_s]
      exact ⟨_, _, _, rfl, rfl, Or.inr ⟨C, g3⟩⟩
    · rw [if_pos q, if_pos q]
      exact ⟨_, _, _, rfl, rfl, Or.inl ⟨rfl, rfl⟩⟩
/-- what is kept of the latest search -/
def SI (σ : Hp) (S : MS) : Prop := Ck σ ∧ ((σ.fi 617 29 = 0 ∧ S.2 33 = 0) ∨ ∃ C pd sp lk, SJ σ S C pd sp lk)
theorem j_costC (si : SI σ S) (lk : Lk σ) (x : Int32) : ∃ v, kX11_cost σ 2 x = some v ∧ r_cost S x = some v := by
  obtain ⟨ck, h⟩ := si
  unfold kX11_cost r_cost
  rw [lk.f5, bind_s, ck.i, bind_s]
  rcases h with ⟨h1, h2⟩ | ⟨C, pd, sp, l, ⟨h1, h2⟩, -, ⟨h3, h4⟩, ⟨h5, h6⟩, ⟨h7, h8⟩, ⟨h9, h10⟩, -⟩
  · rw [h1, h2, if_pos rfl, if_pos rfl]; exact ⟨_, rfl, rfl⟩
  · rw [h1, h2, if_neg (show ¬ (1 : Int32) = 0 by decide), if_neg (show ¬ (1 : Int32) = 0 by decide)]
    by_cases z0 : x = 0
    · rw [if_pos z0, if_pos z0, bind_s, ck.i, bind_s, h5, h6]; exact ⟨_, rfl, rfl⟩
    rw [if_neg z0, if_neg z0]
    by_cases z1 : x = 1
    · rw [if_pos z1, if_pos z1, bind_s, ck.i, bind_s, h7, h8]; exact ⟨_, rfl, rfl⟩
    rw [if_neg z1, if_neg z1]
    by_cases z2 : x = 2
    · rw [if_pos z2, if_pos z2, bind_s, ck.i, bind_s, h9, h10]; exact ⟨_, rfl, rfl⟩
    rw [if_neg z2, if_neg z2]
    by_cases z3 : x = 3
    · rw [if_pos z3, if_pos z3, bind_s, ck.i, bind_s, h3, h4]; exact ⟨_, rfl, rfl⟩
    rw [if_neg z3, if_neg z3]
    exact ⟨_, rfl, rfl⟩
end SEARCHJ
