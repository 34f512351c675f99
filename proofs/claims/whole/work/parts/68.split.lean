-- picks by places
def pik {α : Type} (f : Nat → Bool) : Nat → List α → List α
  | _, [] => []
  | n, e :: r => if f n = true then e :: pik f (n + 1) r else pik f (n + 1) r
theorem pik_snoc {α : Type} {f : Nat → Bool} {e : α} : ∀ (l : List α) (n : Nat), pik f n (l ++ [e]) = if f (n + l.length) = true then pik f n l ++ [e] else pik f n l
  | [], n => by
    show (if f n = true then [e] else []) = _
    rfl
  | x :: r, n => by
    have ih := pik_snoc (f := f) (e := e) r (n + 1)
    have h : n + 1 + r.length = n + (x :: r).length := by simp only [List.length_cons]; omega
    rw [h] at ih
    show (if f n = true then x :: pik f (n + 1) (r ++ [e]) else pik f (n + 1) (r ++ [e])) = if _ then (if f n = true then x :: pik f (n + 1) r else pik f (n + 1) r) ++ [e] else (if f n = true then x :: pik f (n + 1) r else pik f (n + 1) r)
    rw [ih]
    by_cases q : f n = true
    · simp only [if_pos q]
      split <;> rfl
    · simp only [if_neg q]
theorem pik_take {α : Type} {f : Nat → Bool} {l : List α} {k : Nat} {e : α} (h : l[k]? = some e) : pik f 0 (l.take (k + 1)) = if f k = true then pik f 0 (l.take k) ++ [e] else pik f 0 (l.take k) := by
  have hk := get_lt h
  have h1 : l.take (k + 1) = l.take k ++ [e] := by rw [List.take_succ, h]; rfl
  rw [h1, pik_snoc, List.length_take, Nat.min_eq_left (by omega), Nat.zero_add]
theorem pik_sub {α : Type} {f : Nat → Bool} : ∀ (l : List α) (n : Nat), (pik f n l).Sublist l
  | [], _ => List.Sublist.slnil
  | x :: r, n => by
    unfold pik
    split
    · exact (pik_sub r (n + 1)).cons₂ x
    · exact (pik_sub r (n + 1)).cons x
theorem pik_len {α : Type} {f : Nat → Bool} (l : List α) (n : Nat) : (pik f n l).length ≤ l.length := (pik_sub l n).length_le
theorem pik_two {α : Type} {f : Nat → Bool} : ∀ (l : List α) (n : Nat), (pik (fun k => !f k) n l).length + (pik f n l).length = l.length
  | [], _ => rfl
  | x :: r, n => by
    have ih := pik_two (f := f) r (n + 1)
    unfold pik
    cases q : f n
    · simp only [List.length_cons]
      rw [if_pos (by simp), if_neg (by simp), List.length_cons]
      omega
    · rw [if_neg (by simp), if_pos rfl, List.length_cons, List.length_cons]
      omega
theorem pik_mem {α : Type} {f : Nat → Bool} {e : α} : ∀ {l : List α} {n k : Nat}, l[k]? = some e → f (n + k) = true → e ∈ pik f n l
  | [], _, _, h, _ => by cases h
  | x :: r, n, 0, h, hf => by
    cases h
    unfold pik
    rw [if_pos (show f n = true from hf)]
    exact List.mem_cons_self
  | x :: r, n, k + 1, h, hf => by
    have : e ∈ pik f (n + 1) r := pik_mem (k := k) (by simpa using h) (by rw [← hf]; congr 1; omega)
    unfold pik
    split
    · exact List.mem_cons_of_mem _ this
    · exact this
theorem pik_of {α : Type} {f : Nat → Bool} {e : α} : ∀ {l : List α} {n : Nat}, e ∈ pik f n l → ∃ k, l[k]? = some e ∧ f (n + k) = true
  | [], _, h => by cases h
  | x :: r, n, h => by
    unfold pik at h
    by_cases q : f n = true
    · rw [if_pos q] at h
      rcases List.mem_cons.mp h with rfl | h
      · exact ⟨0, rfl, q⟩
      · obtain ⟨k, h1, h2⟩ := pik_of h
        exact ⟨k + 1, by simpa using h1, by rw [← h2]; congr 1; omega⟩
    · rw [if_neg q] at h
      obtain ⟨k, h1, h2⟩ := pik_of h
      exact ⟨k + 1, by simpa using h1, by rw [← h2]; congr 1; omega⟩
-- the best two
def bin (w : Nat → Nat → Nat) (i : Nat) : Nat → Nat → Nat × Nat × Nat → Nat × Nat × Nat
  | 0, _, s => s
  | m + 1, j, s => bin w i m (j + 1) (if w i j < s.2.2 then (i, j, w i j) else s)
def bou (w : Nat → Nat → Nat) (n : Nat) : Nat → Nat → Nat × Nat × Nat → Nat × Nat × Nat
  | 0, _, s => s
  | m + 1, i, s => bou w n m (i + 1) (bin w i (n - (i + 1)) (i + 1) s)
def Bok (n : Nat) (s : Nat × Nat × Nat) : Prop := s.1 < s.2.1 ∧ s.2.1 < n ∧ s.2.2 ≤ 9099
theorem bin_ok {w : Nat → Nat → Nat} {n i : Nat} (hw : ∀ i j, w i j ≤ 9099) : ∀ m j s, j + m = n → i < j → Bok n s → Bok n (bin w i m j s)
  | 0, _, _, _, _, h => h
  | m + 1, j, s, hj, hi, h => by
    unfold bin
    refine bin_ok hw m (j + 1) _ (by omega) (by omega) ?_
    split
    · exact ⟨hi, by show j < n; omega, hw i j⟩
    · exact h
theorem bou_ok {w : Nat → Nat → Nat} {n : Nat} (hw : ∀ i j, w i j ≤ 9099) : ∀ m i s, i + m = n → Bok n s → Bok n (bou w n m i s)
  | 0, _, _, _, h => h
  | m + 1, i, s, hi, h => by
    unfold bou
    exact bou_ok hw m (i + 1) _ (by omega) (bin_ok hw _ _ _ (by omega) (by omega) h)
/-- the weight of two as centres -/
def wtw (V : Vt) (es : List Ent) (i j : Nat) : Nat := max (gr1 V es i j es.length) (gr2 V es i j es.length)
def bst (V : Vt) (es : List Ent) : Nat × Nat × Nat := bou (wtw V es) es.length es.length 0 (0, 1, wtw V es 0 1)
theorem wtw_le {V : Vt} (hv : Vw V) {es : List Ent} (hes : ∀ e ∈ es, e.2.1 ≤ 9000) (i j : Nat) : wtw V es i j ≤ 9099 := by
  unfold wtw
  have := gr1_le hv (i := i) (j := j) (rg_le hes) es.length
  have := gr2_le hv (i := i) (j := j) (rg_le hes) es.length
  omega
theorem bst_ok {V : Vt} (hv : Vw V) {es : List Ent} (hes : ∀ e ∈ es, e.2.1 ≤ 9000) (h2 : 2 ≤ es.length) : Bok es.length (bst V es) := bou_ok (wtw_le hv hes) _ _ _ (by omega) ⟨by show 0 < 1; omega, by show 1 < es.length; omega, wtw_le hv hes 0 1⟩
/-- with nothing found yet it comes to the same -/
theorem bou_far {w : Nat → Nat → Nat} {n x y z : Nat} (h2 : 2 ≤ n) (hz : w 0 1 < z) : bou w n n 0 (x, y, z) = bou w n n 0 (0, 1, w 0 1) := by
  obtain ⟨m, rfl⟩ : ∃ m, n = m + 2 := ⟨n - 2, by omega⟩
  show bou w (m + 2) (m + 1) 1 (bin w 0 (m + 2 - 1) 1 (x, y, z)) = bou w (m + 2) (m + 1) 1 (bin w 0 (m + 2 - 1) 1 (0, 1, w 0 1))
  rw [show m + 2 - 1 = m + 1 by omega]
  show bou w (m + 2) (m + 1) 1 (bin w 0 m 2 (if w 0 1 < z then (0, 1, w 0 1) else (x, y, z))) = bou w (m + 2) (m + 1) 1 (bin w 0 m 2 (if w 0 1 < w 0 1 then (0, 1, w 0 1) else (0, 1, w 0 1)))
  rw [if_pos hz, if_neg (Nat.lt_irrefl _)]
/-- cells alone change -/
def Dm (A : Nat → Prop) (σ σ' : Hp) : Prop := Df A σ σ' ∧ σ'.nx = σ.nx ∧ σ'.us = σ.us ∧ σ'.kd = σ.kd ∧ σ'.ln = σ.ln
theorem Dm.rfl {A : Nat → Prop} {σ : Hp} : Dm A σ σ := ⟨Df.rfl, Eq.refl _, Eq.refl _, Eq.refl _, Eq.refl _⟩
theorem Dm.trans {A B : Nat → Prop} {σ σ1 σ2 : Hp} (d : Dm A σ σ1) (e : Dm B σ1 σ2) (h : ∀ x, B x → A x) : Dm A σ σ2 := ⟨d.1.trans e.1 (fun x _ q => h x q), e.2.1.trans d.2.1, e.2.2.1.trans d.2.2.1, e.2.2.2.1.trans d.2.2.2.1, e.2.2.2.2.trans d.2.2.2.2⟩
theorem Dm.wn {A : Nat → Prop} {σ σ' : Hp} (d : Dm A σ σ') (h : Wn σ) : Wn σ' := ⟨by rw [d.2.1]; exact h.1, by rw [d.2.1, d.2.2.2.1]; exact h.2⟩
theorem Dn.dm {A : Nat → Prop} {σ σ' : Hp} (d : Dn A σ σ') : Dm A σ σ' := ⟨d.df, d.1.2.2.2.2.1, d.1.2.2.2.2.2, d.1.1, d.1.2.1⟩
section PRT
variable {σ : Hp} {V : Vt} {a b : Nat} {p : Pg}
set_option maxHeartbeats 1000000 in
theorem c_part {f : Nat → Bool} {one two : Nat} (h23 : σ.kd 23 = 19) (f904 : σ.fr 904 23 = 26) (k26 : σ.kd 26 = 2) (l26 : σ.ln 26 = 7) (pa : PC σ a p) (pb : PC σ b (mkP p.lf none [])) (hab : a + 3 < b ∨ b + 3 < a) (ha : a + 3 < 23 ∨ 26 < a) (hb : b + 3 < 23 ∨ 26 < b) (hw : Wn σ) (row : ∀ k, k < p.es.length → σ.ar 26 k = bI (f k = true)) (f907 : σ.fi 907 23 = nI one) (f908 : σ.fi 908 23 = nI two) : ∃ σ', kX9_part σ 23 a b = some σ' ∧ PC σ' a (mkP p.lf (some one) (pik (fun k => !f k) 0 p.es)) ∧ PC σ' b (mkP p.lf (some two) (pik f 0 p.es)) ∧ Dm (fun x => Ap a x ∨ Ap b x) σ σ' := by
  have h7 := pa.le
  have n23 : ¬ (Ap a 23 ∨ Ap b 23) := fun q => by unfold Ap at q; omega
  have n26 : ¬ (Ap a 26 ∨ Ap b 26) := fun q => by unfold Ap at q; omega
  have w23 := hw.lt h23
  have w26 := hw.lt k26
  have base : ∀ s, Dm (fun x => Ap a x ∨ Ap b x) σ s → s.kd 23 = 19 ∧ s.fr 904 23 = 26 ∧ s.kd 26 = 2 ∧ s.ln 26 = 7 ∧ s.ar 26 = σ.ar 26 ∧ s.fi 907 23 = nI one ∧ s.fi 908 23 = nI two := fun s d => by
    have q := d.1.2.2 23 w23 n23
    have q2 := d.1.2.2 26 w26 n26
    exact ⟨by rw [d.2.2.2.1]; exact h23, (q.2.1 _).trans f904, by rw [d.2.2.2.1]; exact k26, by rw [d.2.2.2.2]; exact l26, q2.2.2.1, (q.1 _).trans f907, (q.1 _).trans f908⟩
  unfold kX9_part
  have e0 : (0 : Int32) = nI 0 := rfl
  rw [e0]
  refine lp p.es.length (fun F k (s : Hp) => kX9_part_5 F 23 a b (nI (pik (fun k => !f k) 0 (p.es.take k)).length) (nI k) s) (fun k s => Dm (fun x => Ap a x ∨ Ap b x) σ s ∧ (∃ cu, PC s a (mkP p.lf p.ce cu) ∧ cu.length = p.es.length ∧ (∀ m, k ≤ m → cu[m]? = p.es[m]?) ∧ ∀ m, m < (pik (fun k => !f k) 0 (p.es.take k)).length → cu[m]? = (pik (fun k => !f k) 0 (p.es.take k))[m]?) ∧ PC s b (mkP p.lf none (pik f 0 (p.es.take k)))) (fun r => ∃ σ', r = some σ' ∧ PC σ' a (mkP p.lf (some one) (pik (fun k => !f k) 0 p.es)) ∧ PC σ' b (mkP p.lf (some two) (pik f 0 p.es)) ∧ Dm (fun x => Ap a x ∨ Ap b x) σ σ') (fun F s J => ?_) (fun F k s hk J => Or.inl ?_) p.es.length 0 FU σ FU_gt (by omega) ⟨Dm.rfl, ⟨p.es, pa, rfl, fun _ _ => rfl, fun m hm => absurd hm (Nat.not_lt_zero _)⟩, pb⟩
  · obtain ⟨d, ⟨cu, c1, c2, c3, c4⟩, pb1⟩ := J
    obtain ⟨b1, b2, b3, b4, b5, b6, b7⟩ := base s d
    rw [List.take_length] at c4 pb1
    show ∃ σ', kX9_part_5 (F + 1) 23 a b (nI (pik (fun k => !f k) 0 (p.es.take p.es.length)).length) (nI p.es.length) s = some σ' ∧ _
    rw [List.take_length]
    have pl := pik_len (f := fun k => !f k) p.es 0
    generalize hX : pik (fun k => !f k) 0 p.es = X at c4 pl ⊢
    have n1 : gfi s 13 302 a = some (nI p.es.length) := by rw [c1.n]; exact congrArg (fun x => some (nI x)) c2
    have ka := c1.1.1
    have kb := pb1.1.1
    have ne : a ≠ b := by omega
    have na : a ≠ 23 := by omega
    have nb : b ≠ 23 := by omega
    rw [kX9_part_5.eq_2, n1, bind_s, if_pos (nI_le (Nat.le_refl _) (by omega)), pfi_ok ka, bind_s, gfi_ok (show (sfi s 302 a (nI X.length)).kd 23 = 19 from b1), fi_sfi, if_neg (by omega), b6, bind_s, pfi_ok (show (sfi s 302 a (nI X.length)).kd a = 13 from ka), bind_s, gfi_ok (show (sfi (sfi s 302 a (nI X.length)) 301 a (nI one)).kd 23 = 19 from b1), fi_sfi, if_neg (by omega), fi_sfi, if_neg (by omega), b7, bind_s, pfi_ok (show (sfi (sfi s 302 a (nI X.length)) 301 a (nI one)).kd b = 13 from kb), bind_s]
    obtain ⟨p1, ⟨p2, p3, p4, p5⟩, p6⟩ := c1
    obtain ⟨r1, ⟨r2, r3, r4, r5⟩, r6⟩ := pb1
    refine ⟨_, rfl, ⟨(p1.si.si).si, ⟨?_, ?_, ?_, by show X.length ≤ 7; omega⟩, fun m e he => ?_⟩, ⟨(r1.si.si).si, ⟨?_, ?_, ?_, r5⟩, r6⟩, d.trans (B := fun x => Ap a x ∨ Ap b x) ⟨((Df.xi (Or.inl ⟨Nat.le_refl _, by omega⟩)).tr (Df.xi (Or.inl ⟨Nat.le_refl _, by omega⟩))).tr (Df.xi (Or.inr ⟨Nat.le_refl _, by omega⟩)), rfl, rfl, rfl, rfl⟩ (fun _ q => q)⟩
    · rw [fi_sfi, if_neg (by omega), fi_sfi, if_neg (by omega), fi_sfi, if_neg (by omega)]; exact p2
    · rw [fi_sfi, if_neg (by omega), fi_sfi, if_pos ⟨rfl, rfl⟩]; rfl
    · rw [fi_sfi, if_neg (by omega), fi_sfi, if_neg (by omega), fi_sfi, if_pos ⟨rfl, rfl⟩]; rfl
    · have he : X[m]? = some e := he
      have hm := get_lt he
      exact p6 m e ((c4 m hm).trans he)
    · rw [fi_sfi, if_neg (by omega), fi_sfi, if_neg (by omega), fi_sfi, if_neg (by omega)]; exact r2
    · rw [fi_sfi, if_pos ⟨rfl, rfl⟩]; rfl
    · rw [fi_sfi, if_neg (by omega), fi_sfi, if_neg (by omega), fi_sfi, if_neg (by omega)]; exact r4
  · obtain ⟨d, ⟨cu, c1, c2, c3, c4⟩, pb1⟩ := J
    obtain ⟨b1, b2, b3, b4, b5, b6, b7⟩ := base s d
    have ws := d.wn hw
    obtain ⟨e, he⟩ : ∃ e, p.es[k]? = some e := ⟨_, List.getElem?_eq_getElem hk⟩
    have hc : cu[k]? = some e := (c3 k (Nat.le_refl _)).trans he
    have px := pik_take (f := fun k => !f k) he
    have py := pik_take (f := f) he
    have lx := pik_len (f := fun k => !f k) (p.es.take k) 0
    have ly := pik_len (f := f) (p.es.take k) 0
    rw [List.length_take, Nat.min_eq_left (by omega)] at lx ly
    have n1 : gfi s 13 302 a = some (nI p.es.length) := by rw [c1.n]; exact congrArg (fun x => some (nI x)) c2
    have al : ald s 2 26 (nI k) = some (bI (f k = true)) := by rw [ald_ok b3 (by rw [b4]; omega) (by omega), b5, row k hk]
    have ab : ald s 1 (a + 3) (nI k) = some (s.ar (a + 3) k) := ald_ok c1.1.2.2.1.2.2 (by rw [c1.1.2.2.2.2.2]; omega) (by omega)
    have vb : p.lf = false → s.ar (a + 3) k = nI e.2.2 := fun z => (c1.2.2 k e hc).2.2 z
    show ∃ s', _ ∧ kX9_part_5 (F + 1) 23 a b (nI (pik (fun k => !f k) 0 (p.es.take k)).length) (nI k) s = kX9_part_5 F 23 a b (nI (pik (fun k => !f k) 0 (p.es.take (k + 1))).length) (nI (k + 1)) s'
    rw [kX9_part_5.eq_2, n1, bind_s, if_neg (nI_ge hk (by omega)), gfr_ok b1, b2, bind_s, al, bind_s, ite_bI]
    unfold kX9_part_85
    by_cases z : f k = true
    · rw [if_pos z]
      rw [if_neg (by simp [z])] at px
      rw [if_pos z] at py
      have n2 : gfi s 13 302 b = some (nI (pik f 0 (p.es.take k)).length) := pb1.n
      simp only [n2, c1.1.f1, c1.t hc, c1.1.f2, c1.r hc, c1.1.f3, ab, bind_s, ckd_ok pb1.1.1]
      obtain ⟨s', g1, g2, g3⟩ := c_insertEntry pb1 (k := (pik f 0 (p.es.take k)).length) (t := e.1) (r := e.2.1) (b := e.2.2) (vb := s.ar (a + 3) k) (Nat.le_refl _) (by show (pik f 0 (p.es.take k)).length < 7; omega) vb
      rw [g1, bind_s, nI_1, px]
      refine ⟨s', ⟨d.trans (B := Ap b) g3 (fun x q => Or.inr q), ⟨cu, c1.df ws g3.1 (fun x q1 q2 q => by unfold Ap at q; omega), c2, fun m hm => c3 m (by omega), c4⟩, ?_⟩, rfl⟩
      rw [py]
      have : insE (pik f 0 (p.es.take k)) (pik f 0 (p.es.take k)).length e = pik f 0 (p.es.take k) ++ [e] := insE_end
      rw [← this]
      exact g2
    · rw [if_neg z]
      rw [if_pos (by simp [z])] at px
      rw [if_neg z] at py
      simp only [c1.1.f1, c1.t hc, c1.1.f2, c1.r hc, c1.1.f3, ab, bind_s, ckd_ok c1.1.1]
      obtain ⟨s', g1, g2, g3⟩ := c_setEntry c1 (k := (pik (fun k => !f k) 0 (p.es.take k)).length) (t := e.1) (r := e.2.1) (b := e.2.2) (vb := s.ar (a + 3) k) (by show _ < cu.length; omega) vb
      rw [g1, bind_s, nI_1, nI_1, px, List.length_append]
      refine ⟨s', ⟨d.trans (B := Ap a) g3 (fun x q => Or.inl q), ⟨_, g2, ?_, fun m hm => ?_, fun m hm => ?_⟩, ?_⟩, rfl⟩
      · show (cu.set _ _).length = _
        rw [List.length_set]; exact c2
      · show (cu.set _ _)[m]? = _
        rw [List.getElem?_set_ne (by omega)]
        exact c3 m (by omega)
      · show (cu.set _ _)[m]? = _
        have hm : m < (pik (fun k => !f k) 0 (p.es.take k)).length + 1 := hm
        by_cases y : m = (pik (fun k => !f k) 0 (p.es.take k)).length
        · subst y
          rw [List.getElem?_set_self (by omega), List.getElem?_append_right (Nat.le_refl _), Nat.sub_self]
          rfl
        · rw [List.getElem?_set_ne (by omega), List.getElem?_append_left (by omega)]
          exact c4 m (by omega)
      · rw [py]
        exact pb1.df ws g3.1 (fun x q1 q2 q => by unfold Ap at q; omega)
end PRT
