section GLOB
variable {σ σ' : Hp} {S S' : MS} {own own' : Nat → Nat} {A : Nat → Prop} {E E' : Nat} {L L' : List Nat} {V V' : Vt} {π π' : Nat → Nat} {g g' : Gh} {m n u : Nat}
/-- the names of the commands and measures, as the reference lays them -/
def nmL : List Int32 := [3, 16, 21, 20, 4, 4, 18, 15, 16, 4, 14, 5, 1, 18, 6, 23, 9, 20, 8, 9, 14, 7, 13, 5, 1, 19, 21, 18, 5, 3, 3, 1, 16, 3, 6, 1, 18, 4, 19, 9, 26, 5, 4, 5, 4, 9, 20, 5, 16, 12, 1, 3, 5, 3, 19, 21, 13, 4, 8, 5, 1, 4]
/-- the sheet of commands -/
def CM (σ : Hp) (S : MS) : Prop := (σ.kd 53 = 10 ∧ σ.kd 54 = 1 ∧ σ.kd 55 = 1 ∧ σ.kd 56 = 1 ∧ σ.kd 57 = 1) ∧ (σ.ln 54 = 300 ∧ σ.ln 55 = 75 ∧ σ.ln 56 = 75 ∧ σ.ln 57 = 75) ∧ (σ.fr 0 53 = 54 ∧ σ.fr 2 53 = 55 ∧ σ.fr 3 53 = 56 ∧ σ.fr 4 53 = 57) ∧ (∃ n, n ≤ 300 ∧ σ.fi 1 53 = nI n ∧ S.2 44 = nI n ∧ ∀ i, i < n → σ.ar 54 i = S.1 26 i ∧ S.1 26 i ≠ -1) ∧ σ.fi 6 53 = S.2 45 ∧ ∀ i, i < 62 → S.1 27 i = nmL.getD i 0
/-- the replies -/
def RQ (σ : Hp) (S : MS) : Prop := (σ.kd 58 = 15 ∧ σ.kd 59 = 1 ∧ σ.ln 59 = 400 ∧ σ.fr 500 58 = 59) ∧ ∃ n, n ≤ 400 ∧ σ.fi 501 58 = nI n ∧ S.2 52 = nI n ∧ ∀ i, i < n → σ.ar 59 i = S.1 29 i
/-- what the sheet and the replies rest on in the reference -/
def Rcm (S S' : MS) : Prop := (∀ j, j = 26 ∨ j = 27 ∨ j = 29 → S'.1 j = S.1 j) ∧ ∀ k, k = 44 ∨ k = 45 ∨ k = 52 → S'.2 k = S.2 k
/-- what the last search left in the reference -/
def Rs (S S' : MS) : Prop := S'.1 18 = S.1 18 ∧ ∀ k, k = 27 ∨ k = 28 ∨ k = 29 ∨ k = 32 ∨ k = 33 → S'.2 k = S.2 k
theorem Ry.rc (h : Ry S S') : Rcm S S' := ⟨fun j hj => h.1 j (by omega), fun k hk => h.2.2 k (by omega)⟩
theorem Ry.rs (h : Ry S S') : Rs S S' := ⟨h.1 18 (by omega), fun k hk => h.2.2 k (by omega)⟩
theorem Rz.rc (h : Rz S S') : Rcm S S' := ⟨fun j hj => h.1 j (by omega), fun k hk => h.2 k (by omega)⟩
theorem CM.df (h : CM σ S) (wn : Wn σ) (d : Df A σ σ') (hA : ∀ x, 53 ≤ x → x ≤ 57 → ¬ A x) (r : Rcm S S') : CM σ' S' := by
  obtain ⟨⟨a1, a2, a3, a4, a5⟩, ⟨b1, b2, b3, b4⟩, c, ⟨n, e1, e2, e3, e4⟩, f, g⟩ := h
  have q53 := d.2.2 53 (wn.lt a1) (hA 53 (by omega) (by omega))
  have q54 := d.2.2 54 (wn.lt a2) (hA 54 (by omega) (by omega))
  have k1 := d.2.1 53 (wn.lt a1)
  have k2 := d.2.1 54 (wn.lt a2)
  have k3 := d.2.1 55 (wn.lt a3)
  have k4 := d.2.1 56 (wn.lt a4)
  have k5 := d.2.1 57 (wn.lt a5)
  refine ⟨⟨k1.1.trans a1, k2.1.trans a2, k3.1.trans a3, k4.1.trans a4, k5.1.trans a5⟩, ⟨k2.2.trans b1, k3.2.trans b2, k4.2.trans b3, k5.2.trans b4⟩, ?_, ⟨n, e1, (q53.1 _).trans e2, (r.2 44 (by omega)).trans e3, fun i hi => ?_⟩, ?_, fun i hi => ?_⟩
  · rw [q53.2.1, q53.2.1, q53.2.1, q53.2.1]; exact c
  · rw [q54.2.2.1, r.1 26 (by omega)]; exact e4 i hi
  · rw [q53.1, r.2 45 (by omega)]; exact f
  · rw [r.1 27 (by omega)]; exact g i hi
theorem RQ.df (h : RQ σ S) (wn : Wn σ) (d : Df A σ σ') (hA : ∀ x, 58 ≤ x → x ≤ 59 → ¬ A x) (r : Rcm S S') : RQ σ' S' := by
  obtain ⟨⟨a1, a2, a3, a4⟩, ⟨n, e1, e2, e3, e4⟩⟩ := h
  have q58 := d.2.2 58 (wn.lt a1) (hA 58 (by omega) (by omega))
  have q59 := d.2.2 59 (wn.lt a2) (hA 59 (by omega) (by omega))
  have k1 := d.2.1 58 (wn.lt a1)
  have k2 := d.2.1 59 (wn.lt a2)
  refine ⟨⟨k1.1.trans a1, k2.1.trans a2, k2.2.trans a3, (q58.2.1 _).trans a4⟩, n, e1, (q58.1 _).trans e2, (r.2 52 (by omega)).trans e3, fun i hi => ?_⟩
  rw [q59.2.2.1, r.1 29 (by omega)]; exact e4 i hi
theorem Ck.df (h : Ck σ) (wn : Wn σ) (d : Df A σ σ') (hA : ¬ A 29) : Ck σ' := by
  obtain ⟨⟨a1, a2, a3, a4⟩, ⟨b1, b2, b3⟩, c⟩ := h
  have q := (d.2.2 29 (wn.lt a1) hA).2.1
  have k1 := d.2.1 29 (wn.lt a1)
  have k2 := d.2.1 30 (wn.lt a2)
  have k3 := d.2.1 31 (wn.lt a3)
  have k4 := d.2.1 32 (wn.lt a4)
  refine ⟨⟨k1.1.trans a1, k2.1.trans a2, k3.1.trans a3, k4.1.trans a4⟩, ⟨k2.2.trans b1, k3.2.trans b2, k4.2.trans b3⟩, ?_⟩
  rw [q, q, q, q, q, q]; exact c
theorem SI.df (h : SI σ S) (wn : Wn σ) (d : Df A σ σ') (hA : ∀ x, 29 ≤ x → x ≤ 32 → ¬ A x) (r : Rs S S') : SI σ' S' := by
  obtain ⟨ck, h⟩ := h
  have q29 := (d.2.2 29 (wn.lt ck.1.1) (hA 29 (by omega) (by omega))).1
  have q32 := (d.2.2 32 (wn.lt ck.1.2.2.2) (hA 32 (by omega) (by omega))).2.2.1
  refine ⟨ck.df wn d (hA 29 (by omega) (by omega)), ?_⟩
  rcases h with ⟨a, b⟩ | ⟨C, pd, sp, lk, ⟨a1, a2⟩, b, ⟨c1, c2⟩, ⟨d1, d2⟩, ⟨e1, e2⟩, ⟨f1, f2⟩, z⟩
  · exact Or.inl ⟨(q29 _).trans a, (r.2 33 (by omega)).trans b⟩
  · exact Or.inr ⟨C, pd, sp, lk, ⟨(q29 _).trans a1, (r.2 33 (by omega)).trans a2⟩, b, ⟨(q29 _).trans c1, (r.2 32 (by omega)).trans c2⟩, ⟨(q29 _).trans d1, (r.2 27 (by omega)).trans d2⟩, ⟨(q29 _).trans e1, (r.2 28 (by omega)).trans e2⟩, ⟨(q29 _).trans f1, (r.2 29 (by omega)).trans f2⟩, fun i t hi => by rw [q32, r.1]; exact z i t hi⟩
theorem Cy.df (h : Cy σ) (wn : Wn σ) (d : Df A σ σ') (hA : ¬ A 33) : Cy σ' := by
  obtain ⟨a, b⟩ := h
  have q := (d.2.2 33 (wn.lt a) hA).2.1
  exact ⟨(d.2.1 33 (wn.lt a)).1.trans a, by rw [q, q]; exact b⟩
theorem Sr.df (h : Sr σ) (cy : Cy σ) (wn : Wn σ) (d : Df A σ σ') (hA : ¬ A 33) : Sr σ' := by
  obtain ⟨⟨a1, a2, a3, a4⟩, ⟨b1, b2, b3, b4⟩, c⟩ := h
  have q := (d.2.2 33 (wn.lt cy.1) hA).2.1
  have k1 := d.2.1 34 (wn.lt a1)
  have k2 := d.2.1 35 (wn.lt a2)
  have k3 := d.2.1 36 (wn.lt a3)
  have k4 := d.2.1 37 (wn.lt a4)
  exact ⟨⟨k1.1.trans a1, k2.1.trans a2, k3.1.trans a3, k4.1.trans a4⟩, ⟨k1.2.trans b1, k2.2.trans b2, k3.2.trans b3, k4.2.trans b4⟩, by rw [q, q, q, q]; exact c⟩
/-- the walk's object and list -/
def Wq (own : Nat → Nat) (σ : Hp) (m : Nat) : Prop := (σ.kd 27 = 20 ∧ σ.fr 1000 27 = 3 ∧ σ.fr 1001 27 = 19 ∧ σ.fr 1002 27 = 28) ∧ ∃ E8 O, Lv σ 28 E8 O ∧ (E8 ≠ 1 → own E8 = 28) ∧ m = 1600 - σ.ln E8
theorem Lv.enx {l E : Nat} {L : List Nat} (h : Lv σ l E L) (wn : Wn σ) : E < σ.nx := by
  rcases h.2.1 with q | q
  · rw [q.1]; exact wn.lt q.2.1
  · exact wn.lt q.1
theorem Wq.df (h : Wq own σ m) (ow : Own own) (wn : Wn σ) (d : Df A σ σ') (hA : ∀ x, x < σ.nx → A x → own x ≠ 27 ∧ own x ≠ 28) (ho : ∀ x, x < σ.nx → own' x = own x) : Wq own' σ' m := by
  obtain ⟨⟨a1, a2⟩, E8, O, b1, b2, b3⟩ := h
  have l27 := wn.lt a1
  have n27 : ¬ A 27 := fun q => (hA 27 l27 q).1 (ow.f (by omega) (by omega) (by omega))
  have l28 := wn.lt b1.1.1
  have n28 : ¬ A 28 := fun q => (hA 28 l28 q).2 (ow.f (by omega) (by omega) (by omega))
  have q := (d.2.2 27 l27 n27).2.1
  refine ⟨⟨(d.2.1 27 l27).1.trans a1, by rw [q, q, q]; exact a2⟩, E8, O, b1.df wn d n28 (fun hn z => (hA E8 (b1.enx wn) z).2 (b2 hn)), fun hn => ?_, ?_⟩
  · rw [ho E8 (b1.enx wn)]; exact b2 hn
  · rw [(d.2.1 E8 (b1.enx wn)).2]; exact b3
/-- the past, with the room it may yet take -/
def PQ (own : Nat → Nat) (σ : Hp) (S : MS) (n u : Nat) : Prop := ∃ K SS IS EK ES EI eo lo vo, PPc own K SS IS EK ES EI eo lo vo σ ∧ PPr SS IS vo S ∧ n = rN σ K EK ES EI eo lo ∧ u = rU σ K EK ES EI eo lo
theorem PQ.df (h : PQ own σ S n u) (ow : Own own) (wn : Wn σ) (d : Df A σ σ') (hA : ∀ x, x < σ.nx → A x → own x < 38 ∨ (53 ≤ own x ∧ own x < 60)) (ho : ∀ x, x < σ.nx → own' x = own x) (hr : Rp S S') : PQ own' σ' S' n u := by
  obtain ⟨K, SS, IS, EK, ES, EI, eo, lo, vo, h1, h2, h3, h4⟩ := h
  obtain ⟨e1, e2, e3, e4, e5⟩ := rN_cg h1 wn d
  refine ⟨K, SS, IS, EK, ES, EI, eo, lo, vo, h1.df ow wn d hA ho, h2.rp hr, ?_, ?_⟩
  · rw [h3]; unfold rN; rw [e1, e3, e4, e5]
  · rw [h4]; unfold rU; rw [e2, e3, e4, e5]
/-- all that both sides hold between two calls -/
def Iv (σ : Hp) (S : MS) (E : Nat) (L : List Nat) (V : Vt) (π : Nat → Nat) (g : Gh) (own : Nat → Nat) : Prop := (St σ 3 E L V ∧ Tk σ ∧ Wn σ ∧ 60 ≤ σ.nx ∧ Fz σ V ∧ (∃ r q, Mo σ r q) ∧ Lk σ) ∧ (RT (S.1 0) V π ∧ Vw V ∧ Wf V g V.U ∧ ∀ t, (g.lo t).isSome = decide (hs V t)) ∧ (SI σ S ∧ Cy σ ∧ Sr σ ∧ CM σ S ∧ RQ σ S) ∧ (Own own ∧ (∀ x, Fp 3 E L x → own x = 3) ∧ σ.kd 1 = 5 ∧ σ.ln 1 = 0) ∧ ∃ m n u, Wq own σ m ∧ PQ own σ S n u ∧ σ.nx + pt σ E L + m + n + 200 ≤ NXc ∧ σ.us + pv σ E L + 4 * m + u + 20000 ≤ UXc
def In (_ : Nat) (σ : Hp) (S : MS) : Prop := ∃ E L V π g own, Iv σ S E L V π g own
theorem Iv.lo (h : Iv σ S E L V π g own) : Lo E L := fun x hx => by
  obtain ⟨-, -, -, ⟨ow, o3, -⟩, -⟩ := h
  have z := o3 x hx
  by_cases q : x < 60
  · rw [ow x q] at z
    by_cases y : 3 ≤ x ∧ x ≤ 13
    · omega
    · rw [if_neg y] at z
      split at z <;> omega
  · omega
theorem Iv.jc (h : Iv σ S E L V π g own) : JC σ S E L V π g := by
  have lo := h.lo
  obtain ⟨⟨a1, a2, a3, a4, a5, a6, a7⟩, b, -, -, m, n, u, -, -, r1, r2⟩ := h
  exact ⟨⟨a1, a2, ⟨a3, lo, a4, by rw [Pn_pt]; omega, by rw [Pu_pv]; omega⟩, a5, a6, a7⟩, b⟩
theorem Iv.lk (h : Iv σ S E L V π g own) : Lk σ := h.1.2.2.2.2.2.2
theorem Iv.bv (h : Iv σ S E L V π g own) : Bv σ S V π := h.jc.bv h.2.2.1.2.1
/-- the reference changes beside what lasts -/
theorem Iv.rk (h : Iv σ S E L V π g own) (r : Rk S S') : Iv σ S' E L V π g own := by
  obtain ⟨a, b, ⟨c1, c2, c3, c4, c5⟩, d, m, n, u, w, p, r1⟩ := h
  have ry := Ry.rk r
  have wn := a.2.2.1
  refine ⟨a, by rw [r.r0]; exact b, ⟨c1.df (A := fun _ => False) wn Df.rfl (fun _ _ _ q => q) ry.rs, c2, c3, c4.df (A := fun _ => False) wn Df.rfl (fun _ _ _ q => q) ry.rc, c5.df (A := fun _ => False) wn Df.rfl (fun _ _ _ q => q) ry.rc⟩, d, m, n, u, w, p.df (A := fun _ => False) d.1 wn Df.rfl (fun _ _ q => q.elim) (fun _ _ => rfl) ry.rp, r1⟩
end GLOB
