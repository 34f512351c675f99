section INV0
variable {σ σ' : Hp} {S S' : MS} {own own' : Nat → Nat} {A : Nat → Prop}
/-- who owns the fixed cells -/
def Own (own : Nat → Nat) : Prop := ∀ x, x < 60 → own x = if 3 ≤ x ∧ x ≤ 13 then 3 else if 42 ≤ x ∧ x ≤ 52 then 42 else x
theorem Own.f (h : Own own) {x : Nat} (hx : x < 60) (h3 : x < 3 ∨ 13 < x) (h42 : x < 42 ∨ 52 < x) : own x = x := by
  rw [h x hx, if_neg (by omega), if_neg (by omega)]
/-- room yet to be taken by a state, by a list -/
def pt (σ : Hp) (E : Nat) (L : List Nat) : Nat := 4 * (1000 - L.length) + (1600 - σ.ln E)
def pv (σ : Hp) (E : Nat) (L : List Nat) : Nat := 35 * (1000 - L.length) + 4 * (1600 - σ.ln E)
/-- a state of the past in the reference's row -/
def Sn (f : Nat → Int32) (V : Vt) : Prop := ∃ π g, RT f V π ∧ Wf V g V.U ∧ ∀ t, (g.lo t).isSome = decide (hs V t)
/-- the steps in the reference's row -/
def Hst (R : Nat → Int32) (SS : List Nat) (vo : Nat → Vt) : Prop := SS.length ≤ 20 ∧ R 0 = nI SS.length ∧ ∃ f, f < 20 ∧ R 1 = nI f ∧ ∀ i s : Nat, SS[i]? = some s → Sn (fun x => R (23612 * (1 + (f + i) % 20) + x)) (vo s)
/-- what is kept of the past: the class's part, the reference's part -/
def PPc (own : Nat → Nat) (K SS IS : List Nat) (EK ES EI : Nat) (eo : Nat → Nat) (lo : Nat → List Nat) (vo : Nat → Vt) (σ : Hp) : Prop := (σ.kd 38 = 14 ∧ σ.fr 400 38 = 39 ∧ σ.fr 401 38 = 40 ∧ σ.fr 402 38 = 41 ∧ σ.fr 403 38 = 42) ∧ (Lv σ 39 EK K ∧ Lv σ 40 ES SS ∧ Lv σ 41 EI IS) ∧ ((EK ≠ 1 → own EK = 39) ∧ (ES ≠ 1 → own ES = 40) ∧ (EI ≠ 1 → own EI = 41)) ∧ ((K.Nodup ∧ ∀ s ∈ K, 60 ≤ s) ∧ (SS.Nodup ∧ ∀ s ∈ SS, s ∈ K) ∧ (IS.Nodup ∧ ∀ s ∈ IS, s ∈ K) ∧ K.length ≤ 40) ∧ (∀ s, s = 42 ∨ s ∈ K → St σ s (eo s) (lo s) (vo s) ∧ (∀ x, Fp s (eo s) (lo s) x → own x = s) ∧ Vw (vo s) ∧ (vo s).U ≤ 780) ∧ (∀ s ∈ K, σ.fi 711 s = bI (s ∈ SS) ∧ σ.fi 712 s = bI (s ∈ IS))
def PPr (SS IS : List Nat) (vo : Nat → Vt) (S : MS) : Prop := Hst (S.1 0) SS vo ∧ Sn (S.1 1) (vo 42) ∧ Hst (S.1 1) IS vo
/-- room yet to be taken by the past -/
def rN (σ : Hp) (K : List Nat) (EK ES EI : Nat) (eo : Nat → Nat) (lo : Nat → List Nat) : Nat := ((42 :: K).map (fun s => pt σ (eo s) (lo s))).sum + (1600 - σ.ln EK) + (1600 - σ.ln ES) + (1600 - σ.ln EI) + 5700 * (40 - K.length)
def rU (σ : Hp) (K : List Nat) (EK ES EI : Nat) (eo : Nat → Nat) (lo : Nat → List Nat) : Nat := ((42 :: K).map (fun s => pv σ (eo s) (lo s))).sum + 4 * (1600 - σ.ln EK) + 4 * (1600 - σ.ln ES) + 4 * (1600 - σ.ln EI) + 42000 * (40 - K.length)
/-- rows and fields of the reference that the past rests on -/
def Rp (S S' : MS) : Prop := S'.1 1 = S.1 1 ∧ ∀ x, x < 2 ∨ 23614 ≤ x → S'.1 0 x = S.1 0 x
theorem Ry.rp (h : Ry S S') : Rp S S' := ⟨h.1 1 (by decide), h.2.1⟩
theorem Rk.rp (h : Rk S S') : Rp S S' := (Ry.rk h).rp
theorem Rz.rp (h : Rz S S') : Rp S S' := ⟨h.1 1 (by decide), fun x _ => by rw [h.1 0 (by decide)]⟩
theorem S2.rp (h : S2 S S') : Rp S S' := ⟨h.r (by decide) (by decide), fun x _ => by rw [h.r (by decide) (by decide)]⟩
theorem Sn.cg {f f' : Nat → Int32} {V : Vt} (h : Sn f V) (e : ∀ x, f' x = f x) : Sn f' V := by
  have : f' = f := funext e
  rw [this]; exact h
theorem Hst.cg {R R' : Nat → Int32} {SS : List Nat} {vo : Nat → Vt} (h : Hst R SS vo) (e : ∀ x, x < 2 ∨ 23614 ≤ x → R' x = R x) (e2 : ∀ x, 23612 ≤ x → R' x = R x) : Hst R' SS vo := by
  obtain ⟨h1, h2, f, h3, h4, h5⟩ := h
  refine ⟨h1, by rw [e 0 (by omega)]; exact h2, f, h3, by rw [e 1 (by omega)]; exact h4, fun i s hi => ?_⟩
  refine (h5 i s hi).cg (fun x => e2 _ ?_)
  have : 23612 * 1 ≤ 23612 * (1 + (f + i) % 20) := Nat.mul_le_mul_left _ (by omega)
  omega
theorem Lv.nl {l E : Nat} {L : List Nat} (h : Lv σ l E L) (wn : Wn σ) : l < σ.nx := wn.lt h.1.1
/-- the past is left alone -/
theorem PPc.df {K SS IS : List Nat} {EK ES EI : Nat} {eo : Nat → Nat} {lo : Nat → List Nat} {vo : Nat → Vt} (h : PPc own K SS IS EK ES EI eo lo vo σ) (ow : Own own) (wn : Wn σ) (d : Df A σ σ') (hA : ∀ x, x < σ.nx → A x → own x < 38 ∨ (53 ≤ own x ∧ own x < 60)) (ho : ∀ x, x < σ.nx → own' x = own x) : PPc own' K SS IS EK ES EI eo lo vo σ' := by
  obtain ⟨⟨a1, a2⟩, ⟨b1, b2, b3⟩, ⟨c1, c2, c3⟩, ⟨⟨d1, d2⟩, d3, d4, d5⟩, e, f⟩ := h
  have no : ∀ x, x < σ.nx → (own x = 38 ∨ own x = 39 ∨ own x = 40 ∨ own x = 41 ∨ own x = 42 ∨ 60 ≤ own x) → ¬ A x := fun x hx ho hA' => by
    have := hA x hx hA'
    omega
  have fx : ∀ x, 38 ≤ x → x ≤ 41 → x < σ.nx → ¬ A x := fun x h1 h2 hx => no x hx (by rw [ow.f (by omega) (by omega) (by omega)]; omega)
  have k38 := wn.lt a1
  have f38 := (d.2.2 38 k38 (fx 38 (by omega) (by omega) k38)).2.1
  have el : ∀ {l E : Nat} {L : List Nat}, Lv σ l E L → E ≠ 1 → E < σ.nx := fun h hn => by
    rcases h.2.1 with q | q
    · exact absurd q.1 hn
    · exact wn.lt q.1
  have lst : ∀ {l E : Nat} {L : List Nat}, Lv σ l E L → 38 ≤ l → l ≤ 41 → (E ≠ 1 → own E = l) → Lv σ' l E L := fun h h1 h2 h3 => h.df wn d (fx _ h1 h2 (h.nl wn)) (fun hn => no _ (el h hn) (by rw [h3 hn]; omega))
  have st : ∀ s, s = 42 ∨ s ∈ K → St σ' s (eo s) (lo s) (vo s) ∧ (∀ x, Fp s (eo s) (lo s) x → own' x = s) ∧ Vw (vo s) ∧ (vo s).U ≤ 780 := fun s hs => by
    obtain ⟨e1, e2, e3, e4⟩ := e s hs
    have s60 : s = 42 ∨ 60 ≤ s := hs.imp id (d2 s)
    exact ⟨e1.df wn d (fun x hx => no x (Fp.lt e1 wn hx) (by rw [e2 x hx]; omega)), fun x hx => by rw [ho x (Fp.lt e1 wn hx)]; exact e2 x hx, e3, e4⟩
  refine ⟨⟨(d.2.1 38 k38).1.trans a1, by rw [f38, f38, f38, f38]; exact a2⟩, ⟨lst b1 (by omega) (by omega) c1, lst b2 (by omega) (by omega) c2, lst b3 (by omega) (by omega) c3⟩, ⟨fun hn => by rw [ho _ (el b1 hn)]; exact c1 hn, fun hn => by rw [ho _ (el b2 hn)]; exact c2 hn, fun hn => by rw [ho _ (el b3 hn)]; exact c3 hn⟩, ⟨⟨d1, d2⟩, d3, d4, d5⟩, st, fun s hs => ?_⟩
  · obtain ⟨e1, e2, -⟩ := e s (Or.inr hs)
    have sn := wn.lt e1.ks
    have so : own s = s := e2 s (Or.inl ⟨Nat.le_refl _, by omega⟩)
    have := (d.2.2 s sn (no s sn (by rw [so]; have := d2 s hs; omega))).1
    rw [this, this]
    exact f s hs
theorem PPr.rp {SS IS : List Nat} {vo : Nat → Vt} (h : PPr SS IS vo S) (hr : Rp S S') : PPr SS IS vo S' := by
  obtain ⟨g1, g2, g3⟩ := h
  unfold PPr
  rw [hr.1]
  refine ⟨?_, g2, g3⟩
  obtain ⟨h1, h2, f, h3, h4, h5⟩ := g1
  refine ⟨h1, by rw [hr.2 0 (by omega)]; exact h2, f, h3, by rw [hr.2 1 (by omega)]; exact h4, fun i s hi => ?_⟩
  obtain ⟨π, g, r1, r2⟩ := h5 i s hi
  refine ⟨π, g, ?_, r2⟩
  have ge : 23612 ≤ 23612 * (1 + (f + i) % 20) := by
    have : 23612 * 1 ≤ 23612 * (1 + (f + i) % 20) := Nat.mul_le_mul_left _ (by omega)
    omega
  have eq : ∀ x, 2 ≤ x → S'.1 0 (23612 * (1 + (f + i) % 20) + x) = S.1 0 (23612 * (1 + (f + i) % 20) + x) := fun x hx => hr.2 _ (by omega)
  obtain ⟨⟨⟨q1, q2, q3⟩, q4, q5⟩, q6, q7, q8, q9⟩ := r1
  exact ⟨⟨⟨(eq _ (by omega)).trans q1, (eq _ (by omega)).trans q2, (eq _ (by omega)).trans q3⟩, fun t ht => (eq _ (by omega)).trans (q4 t ht), fun k e he => ⟨(eq _ (by omega)).trans (q5 k e he).1, (eq _ (by omega)).trans (q5 k e he).2.1, (eq _ (by omega)).trans (q5 k e he).2.2⟩⟩, (eq _ (by omega)).trans q6, fun p hp => ⟨(q7 p hp).1, (q7 p hp).2.keep (fun x x1 _ => eq x (by omega))⟩, fun p p1 p2 => (eq _ (by omega)).trans (q8 p p1 p2), q9⟩
end INV0
