/-- below the next address nothing is changed but where A says -/
def Df (A : Nat → Prop) (σ σ' : Hp) : Prop := σ.nx ≤ σ'.nx ∧ (∀ a, a < σ.nx → σ'.kd a = σ.kd a ∧ σ'.ln a = σ.ln a) ∧ (∀ a, a < σ.nx → ¬ A a → (∀ i, σ'.fi i a = σ.fi i a) ∧ (∀ i, σ'.fr i a = σ.fr i a) ∧ σ'.ar a = σ.ar a ∧ σ'.rr a = σ.rr a)
theorem Df.rfl {A : Nat → Prop} {σ : Hp} : Df A σ σ := ⟨Nat.le_refl _, fun _ _ => ⟨Eq.refl _, Eq.refl _⟩, fun _ _ _ => ⟨fun _ => Eq.refl _, fun _ => Eq.refl _, Eq.refl _, Eq.refl _⟩⟩
theorem Df.trans {A B : Nat → Prop} {σ σ1 σ2 : Hp} (h : Df A σ σ1) (g : Df B σ1 σ2) (hb : ∀ a, a < σ.nx → B a → A a) : Df A σ σ2 := by
  obtain ⟨a1, a2, a3⟩ := h
  obtain ⟨b1, b2, b3⟩ := g
  refine ⟨Nat.le_trans a1 b1, fun a ha => ?_, fun a ha hA => ?_⟩
  · have := a2 a ha
    have := b2 a (Nat.lt_of_lt_of_le ha a1)
    simp_all
  · obtain ⟨c1, c2, c3, c4⟩ := a3 a ha hA
    obtain ⟨d1, d2, d3, d4⟩ := b3 a (Nat.lt_of_lt_of_le ha a1) (fun q => hA (hb a ha q))
    exact ⟨fun i => (d1 i).trans (c1 i), fun i => (d2 i).trans (c2 i), d3.trans c3, d4.trans c4⟩
theorem Df.mono {A B : Nat → Prop} {σ σ1 : Hp} (h : Df A σ σ1) (hb : ∀ a, a < σ.nx → A a → B a) : Df B σ σ1 := ⟨h.1, h.2.1, fun a ha hB => h.2.2 a ha (fun q => hB (hb a ha q))⟩
theorem Df.tr {A : Nat → Prop} {σ σ1 σ2 : Hp} (h : Df A σ σ1) (g : Df A σ1 σ2) : Df A σ σ2 := h.trans g (fun _ _ q => q)
theorem Df.xi {A : Nat → Prop} {σ : Hp} {i a : Nat} {v : Int32} (h : A a) : Df A σ (sfi σ i a v) := ⟨Nat.le_refl _, fun _ _ => ⟨Eq.refl _, Eq.refl _⟩, fun b _ hA => ⟨fun j => (by rw [fi_sfi, if_neg (fun q : j = i ∧ b = a => hA (q.2 ▸ h))]), fun _ => Eq.refl _, Eq.refl _, Eq.refl _⟩⟩
theorem Df.xr {A : Nat → Prop} {σ : Hp} {i a v : Nat} (h : A a) : Df A σ (sfr σ i a v) := ⟨Nat.le_refl _, fun _ _ => ⟨Eq.refl _, Eq.refl _⟩, fun b _ hA => ⟨fun _ => Eq.refl _, fun j => (by rw [fr_sfr, if_neg (fun q : j = i ∧ b = a => hA (q.2 ▸ h))]), Eq.refl _, Eq.refl _⟩⟩
theorem Df.xa {A : Nat → Prop} {σ : Hp} {a : Nat} {f : Nat → Int32} (h : A a) : Df A σ (saw σ a f) := ⟨Nat.le_refl _, fun _ _ => ⟨Eq.refl _, Eq.refl _⟩, fun b _ hA => ⟨fun _ => Eq.refl _, fun _ => Eq.refl _, ar_saw_ne (fun q => hA (q ▸ h)), Eq.refl _⟩⟩
/-- a row of references anew -/
def srw (x : Hp) (a : Nat) (f : Nat → Nat) : Hp := mkH x.kd x.ln x.fi x.fr x.ar (upr x.rr a f) x.nx x.us
theorem rr_srw {x : Hp} {a : Nat} {f : Nat → Nat} : (srw x a f).rr a = f := if_pos rfl
theorem rr_srw_ne {x : Hp} {a b : Nat} {f : Nat → Nat} (h : b ≠ a) : (srw x a f).rr b = x.rr b := if_neg h
theorem srr_srw {x : Hp} {a i v : Nat} : srr x a i v = srw x a (fun j => if j = i then v else x.rr a j) := by
  unfold srr srw mkH
  congr 6
  funext b j
  unfold up3 upr
  by_cases h : b = a
  · subst h; simp
  · simp [h]
theorem Df.xe {A : Nat → Prop} {σ : Hp} {a : Nat} {f : Nat → Nat} (h : A a) : Df A σ (srw σ a f) := ⟨Nat.le_refl _, fun _ _ => ⟨Eq.refl _, Eq.refl _⟩, fun b _ hA => ⟨fun _ => Eq.refl _, fun _ => Eq.refl _, Eq.refl _, rr_srw_ne (fun q => hA (q ▸ h))⟩⟩
theorem Df.xa' {A : Nat → Prop} {σ σ1 : Hp} {a : Nat} {f : Nat → Int32} (d : Df A σ σ1) (h : A a) : Df A σ (saw σ1 a f) := d.tr (Df.xa h)
theorem Df.xi' {A : Nat → Prop} {σ σ1 : Hp} {i a : Nat} {v : Int32} (d : Df A σ σ1) (h : A a) : Df A σ (sfi σ1 i a v) := d.tr (Df.xi h)
theorem Df.xr' {A : Nat → Prop} {σ σ1 : Hp} {i a v : Nat} (d : Df A σ σ1) (h : A a) : Df A σ (sfr σ1 i a v) := d.tr (Df.xr h)
theorem Df.xe' {A : Nat → Prop} {σ σ1 : Hp} {a : Nat} {f : Nat → Nat} (d : Df A σ σ1) (h : A a) : Df A σ (srw σ1 a f) := d.tr (Df.xe h)
/-- the store's addresses -/
def Wn (σ : Hp) : Prop := 2 ≤ σ.nx ∧ ∀ a, σ.kd a ≠ 0 → a < σ.nx
theorem Wn.lt {σ : Hp} (h : Wn σ) {a t : Nat} (q : σ.kd a = t) (ht : t ≠ 0 := by decide) : a < σ.nx := h.2 a (by rw [q]; exact ht)
theorem cpI_ok {σ : Hp} {a b sp dp n : Nat} (h1 : σ.kd a = 1) (h2 : σ.kd b = 1) (h3 : sp + n ≤ σ.ln a) (h4 : dp + n ≤ σ.ln b) (hs : sp < 2 ^ 31) (hd : dp < 2 ^ 31) (hn : n < 2 ^ 31) : cpI σ a (nI sp) b (nI dp) (nI n) = some (saw σ b (va_cpy (σ.ar a) (σ.ar b) sp dp n)) := by
  unfold cpI
  rw [nI_clamp hs, nI_clamp hd, nI_clamp hn, if_pos ⟨h1, h2, nI_pos hs, nI_pos hd, nI_pos hn, h3, h4⟩]
  rfl
theorem cpR_ok {σ : Hp} {a b sp dp n : Nat} (h1 : σ.kd a = 3) (h2 : σ.kd b = 3) (h3 : sp + n ≤ σ.ln a) (h4 : dp + n ≤ σ.ln b) (hs : sp < 2 ^ 31) (hd : dp < 2 ^ 31) (hn : n < 2 ^ 31) : cpR σ a (nI sp) b (nI dp) (nI n) = some (srw σ b (va_cpy (σ.rr a) (σ.rr b) sp dp n)) := by
  unfold cpR
  rw [nI_clamp hs, nI_clamp hd, nI_clamp hn, if_pos ⟨h1, h2, nI_pos hs, nI_pos hd, nI_pos hn, h3, h4⟩]
  rfl
theorem rst_ok {σ : Hp} {a k v : Nat} (h : σ.kd a = 3) (hk : k < σ.ln a) (hl : k < 2 ^ 31) (hv : v = 0 ∨ σ.kd v = 13 ∨ σ.kd v = 17) : rst σ a (nI k) v = some (srw σ a (fun j => if j = k then v else σ.rr a j)) := by
  unfold rst
  rw [nI_clamp hl, if_pos, srr_srw]
  refine ⟨h, fun q => ?_, hv⟩
  rcases q with q | q
  · exact nI_pos hl q
  · omega
theorem aln_ok {σ : Hp} {a : Nat} (h : σ.kd a = 1 ∨ σ.kd a = 3 ∨ σ.kd a = 5) : aln σ a = some (nI (σ.ln a)) := if_pos h
theorem ast_saw {x : Hp} {t a k : Nat} {v : Int32} (h : x.kd a = t) (hk : k < x.ln a) (hl : k < 2 ^ 31) : ast x t a (nI k) v = some (saw x a (upd (x.ar a) k v)) := by rw [ast_ok h hk hl, sar_saw]
theorem nz_ok {a : Nat} (h : a ≠ 0) : nz a = some () := if_neg h
theorem ckc_ok {Y : Type} {x : Hp} {a t : Nat} {o : Option Y} (h : x.kd a = t) : ckc x a t o = o := if_pos (Or.inr h)
def hO (x : Hp) (c n : Nat) : Hp := mkH (upr x.kd x.nx (10 + c)) x.ln (fun id b => if b = x.nx then 0 else x.fi id b) (fun id b => if b = x.nx then 0 else x.fr id b) x.ar x.rr (x.nx + 1) (x.us + n)
def hA (x : Hp) (t n : Nat) : Hp := mkH (upr x.kd x.nx t) (upr x.ln x.nx n) x.fi x.fr (upr x.ar x.nx (fun _ => 0)) x.rr (x.nx + 1) (x.us + n)
def hR (x : Hp) (n : Nat) : Hp := mkH (upr x.kd x.nx 3) (upr x.ln x.nx n) x.fi x.fr x.ar (upr x.rr x.nx (fun _ => 0)) (x.nx + 1) (x.us + n)
theorem nwO_ok {x : Hp} {c n : Nat} (h1 : x.nx + 1 ≤ NXc) (h2 : x.us + n ≤ UXc) : nwO x c n = some (x.nx, hO x c n) := if_pos ⟨h1, h2⟩
theorem nwA_ok {x : Hp} {t n : Nat} (hn : n < 2 ^ 31) (h1 : x.nx + 1 ≤ NXc) (h2 : x.us + n ≤ UXc) : nwA x t (nI n) = some (x.nx, hA x t n) := by
  unfold nwA
  rw [nI_clamp hn, if_pos ⟨nI_pos hn, h1, h2⟩]
  rfl
theorem nwR_ok {x : Hp} {n : Nat} (hn : n < 2 ^ 31) (h1 : x.nx + 1 ≤ NXc) (h2 : x.us + n ≤ UXc) : nwR x (nI n) = some (x.nx, hR x n) := by
  unfold nwR
  rw [nI_clamp hn, if_pos ⟨nI_pos hn, h1, h2⟩]
  rfl
theorem upr_s {α : Type} {A : Nat → α} {j : Nat} {v : α} : upr A j v j = v := if_pos rfl
theorem upr_n {α : Type} {A : Nat → α} {j k : Nat} {v : α} (h : k ≠ j) : upr A j v k = A k := if_neg h
theorem Df.nO {A : Nat → Prop} {σ : Hp} {c n : Nat} : Df A σ (hO σ c n) := ⟨Nat.le_succ _, fun a ha => ⟨upr_n (by omega), Eq.refl _⟩, fun a ha _ => ⟨fun i => if_neg (by omega), fun i => if_neg (by omega), Eq.refl _, Eq.refl _⟩⟩
theorem Df.nA {A : Nat → Prop} {σ : Hp} {t n : Nat} : Df A σ (hA σ t n) := ⟨Nat.le_succ _, fun a ha => ⟨upr_n (by omega), upr_n (by omega)⟩, fun a ha _ => ⟨fun i => Eq.refl _, fun i => Eq.refl _, upr_n (by omega), Eq.refl _⟩⟩
theorem Df.nR {A : Nat → Prop} {σ : Hp} {n : Nat} : Df A σ (hR σ n) := ⟨Nat.le_succ _, fun a ha => ⟨upr_n (by omega), upr_n (by omega)⟩, fun a ha _ => ⟨fun i => Eq.refl _, fun i => Eq.refl _, Eq.refl _, upr_n (by omega)⟩⟩
theorem Wn.nO {σ : Hp} {c n : Nat} (h : Wn σ) : Wn (hO σ c n) := ⟨Nat.le_succ_of_le h.1, fun a ha => by
  by_cases q : a = σ.nx
  · rw [q]; exact Nat.lt_succ_self _
  · have : (hO σ c n).kd a = σ.kd a := upr_n q
    exact Nat.lt_succ_of_lt (h.2 a (this ▸ ha))⟩
theorem Wn.nA {σ : Hp} {c n : Nat} (h : Wn σ) : Wn (hA σ c n) := ⟨Nat.le_succ_of_le h.1, fun a ha => by
  by_cases q : a = σ.nx
  · rw [q]; exact Nat.lt_succ_self _
  · have : (hA σ c n).kd a = σ.kd a := upr_n q
    exact Nat.lt_succ_of_lt (h.2 a (this ▸ ha))⟩
theorem Wn.nR {σ : Hp} {n : Nat} (h : Wn σ) : Wn (hR σ n) := ⟨Nat.le_succ_of_le h.1, fun a ha => by
  by_cases q : a = σ.nx
  · rw [q]; exact Nat.lt_succ_self _
  · have : (hR σ n).kd a = σ.kd a := upr_n q
    exact Nat.lt_succ_of_lt (h.2 a (this ▸ ha))⟩
-- lists with one more
def insE {α : Type} (es : List α) (k : Nat) (e : α) : List α := es.take k ++ e :: es.drop k
theorem insE_len {α : Type} {es : List α} {k : Nat} {e : α} : (insE es k e).length = es.length + 1 := by
  unfold insE
  rw [List.length_append, List.length_cons, List.length_take, List.length_drop]
  omega
theorem insE_get {α : Type} {es : List α} {k : Nat} {e : α} (hk : k ≤ es.length) (j : Nat) : (insE es k e)[j]? = if j < k then es[j]? else if j = k then some e else es[j - 1]? := by
  unfold insE
  have hl : (es.take k).length = k := by rw [List.length_take]; omega
  by_cases h : j < k
  · rw [if_pos h, List.getElem?_append_left (by omega), List.getElem?_take_of_lt h]
  · rw [if_neg h, List.getElem?_append_right (by omega), hl]
    by_cases h2 : j = k
    · rw [if_pos h2, h2, Nat.sub_self]; rfl
    · rw [if_neg h2]
      have : j - k = (j - 1 - k) + 1 := by omega
      rw [this, List.getElem?_cons_succ, List.getElem?_drop]
      congr 1
      omega
theorem insE_end {α : Type} {es : List α} {e : α} : insE es es.length e = es ++ [e] := by
  unfold insE
  rw [List.take_length, List.drop_length]
-- a page of the class
def PG (σ : Hp) (a : Nat) : Prop := σ.kd a = 13 ∧ (σ.fr 303 a = a + 1 ∧ σ.fr 304 a = a + 2 ∧ σ.fr 305 a = a + 3) ∧ (σ.kd (a + 1) = 1 ∧ σ.kd (a + 2) = 1 ∧ σ.kd (a + 3) = 1) ∧ (σ.ln (a + 1) = 7 ∧ σ.ln (a + 2) = 7 ∧ σ.ln (a + 3) = 7)
def PC (σ : Hp) (a : Nat) (p : Pg) : Prop := PG σ a ∧ (σ.fi 300 a = bI (p.lf = true) ∧ σ.fi 301 a = o2i p.ce ∧ σ.fi 302 a = nI p.es.length ∧ p.es.length ≤ 7) ∧ ∀ k e, p.es[k]? = some e → σ.ar (a + 1) k = nI e.1 ∧ σ.ar (a + 2) k = nI e.2.1 ∧ (p.lf = false → σ.ar (a + 3) k = nI e.2.2)
section PGs
variable {σ : Hp} {a : Nat} {p : Pg}
theorem PG.k (h : PG σ a) : σ.kd a = 13 := h.1
theorem PG.c {Y : Type} {o : Option Y} (h : PG σ a) : ckd σ a 13 o = o := ckd_ok h.1
theorem PG.f1 (h : PG σ a) : gfr σ 13 303 a = some (a + 1) := by rw [gfr_ok h.1, h.2.1.1]
theorem PG.f2 (h : PG σ a) : gfr σ 13 304 a = some (a + 2) := by rw [gfr_ok h.1, h.2.1.2.1]
theorem PG.f3 (h : PG σ a) : gfr σ 13 305 a = some (a + 3) := by rw [gfr_ok h.1, h.2.1.2.2]
theorem PC.n (h : PC σ a p) : gfi σ 13 302 a = some (nI p.es.length) := by rw [gfi_ok h.1.1, h.2.1.2.2.1]
theorem PC.l (h : PC σ a p) : gfi σ 13 300 a = some (bI (p.lf = true)) := by rw [gfi_ok h.1.1, h.2.1.1]
theorem PC.ce (h : PC σ a p) : gfi σ 13 301 a = some (o2i p.ce) := by rw [gfi_ok h.1.1, h.2.1.2.1]
theorem PC.le (h : PC σ a p) : p.es.length ≤ 7 := h.2.1.2.2.2
theorem get_lt {α : Type} {L : List α} {k : Nat} {e : α} (h : L[k]? = some e) : k < L.length := (List.getElem?_eq_some_iff.mp h).1
theorem PC.t (h : PC σ a p) {k : Nat} {e : Nat × Nat × Nat} (he : p.es[k]? = some e) : ald σ 1 (a + 1) (nI k) = some (nI e.1) := by
  have := get_lt he
  have := h.le
  rw [ald_ok h.1.2.2.1.1 (by rw [h.1.2.2.2.1]; omega) (by omega), (h.2.2 k e he).1]
theorem PC.r (h : PC σ a p) {k : Nat} {e : Nat × Nat × Nat} (he : p.es[k]? = some e) : ald σ 1 (a + 2) (nI k) = some (nI e.2.1) := by
  have := get_lt he
  have := h.le
  rw [ald_ok h.1.2.2.1.2.1 (by rw [h.1.2.2.2.2.1]; omega) (by omega), (h.2.2 k e he).2.1]
theorem PC.b (h : PC σ a p) {k : Nat} {e : Nat × Nat × Nat} (he : p.es[k]? = some e) (hl : p.lf = false) : ald σ 1 (a + 3) (nI k) = some (nI e.2.2) := by
  have := get_lt he
  have := h.le
  rw [ald_ok h.1.2.2.1.2.2 (by rw [h.1.2.2.2.2.2]; omega) (by omega), (h.2.2 k e he).2.2 hl]
theorem PG.df {A : Nat → Prop} {σ' : Hp} (h : PG σ a) (hw : Wn σ) (d : Df A σ σ') (hA : ¬ A a) : PG σ' a := by
  obtain ⟨h1, ⟨h2, h3, h4⟩, ⟨h5, h6, h7⟩, h8, h9, h10⟩ := h
  have q0 := d.2.1 a (hw.lt h1)
  have q1 := d.2.1 (a + 1) (hw.lt h5)
  have q2 := d.2.1 (a + 2) (hw.lt h6)
  have q3 := d.2.1 (a + 3) (hw.lt h7)
  have q := (d.2.2 a (hw.lt h1) hA).2.1
  exact ⟨q0.1.trans h1, ⟨(q _).trans h2, (q _).trans h3, (q _).trans h4⟩, ⟨q1.1.trans h5, q2.1.trans h6, q3.1.trans h7⟩, q1.2.trans h8, q2.2.trans h9, q3.2.trans h10⟩
theorem PC.df {A : Nat → Prop} {σ' : Hp} (h : PC σ a p) (hw : Wn σ) (d : Df A σ σ') (hA : ∀ x, a ≤ x → x ≤ a + 3 → ¬ A x) : PC σ' a p := by
  have h0 := h.1
  obtain ⟨h1, ⟨h2, h3, h4⟩, ⟨h5, h6, h7⟩, h8, h9, h10⟩ := h0
  refine ⟨h.1.df hw d (hA a (by omega) (by omega)), ?_, fun k e he => ?_⟩
  · have q := (d.2.2 a (hw.lt h1) (hA a (by omega) (by omega))).1
    rw [q, q, q]
    exact h.2.1
  · rw [(d.2.2 (a + 1) (hw.lt h5) (hA _ (by omega) (by omega))).2.2.1, (d.2.2 (a + 2) (hw.lt h6) (hA _ (by omega) (by omega))).2.2.1, (d.2.2 (a + 3) (hw.lt h7) (hA _ (by omega) (by omega))).2.2.1]
    exact h.2.2 k e he
theorem PG.cg {σ' : Hp} (h : PG σ a) (k : σ'.kd = σ.kd) (l : σ'.ln = σ.ln) (f : σ'.fr = σ.fr) : PG σ' a := by
  unfold PG at *
  rw [k, l, f]
  exact h
/-- a page's own cells -/
def Ap (a : Nat) : Nat → Prop := fun x => a ≤ x ∧ x ≤ a + 3
/-- one page is written alone -/
def Dp (a : Nat) (σ σ' : Hp) : Prop := Df (Ap a) σ σ' ∧ σ'.nx = σ.nx ∧ σ'.us = σ.us ∧ σ'.kd = σ.kd ∧ σ'.ln = σ.ln
theorem Dp.wn {a : Nat} {σ σ' : Hp} (d : Dp a σ σ') (h : Wn σ) : Wn σ' := ⟨by rw [d.2.1]; exact h.1, by rw [d.2.1, d.2.2.2.1]; exact h.2⟩
theorem Dp.tr {a : Nat} {σ σ1 σ2 : Hp} (d : Dp a σ σ1) (e : Dp a σ1 σ2) : Dp a σ σ2 := ⟨d.1.tr e.1, e.2.1.trans d.2.1, e.2.2.1.trans d.2.2.1, e.2.2.2.1.trans d.2.2.2.1, e.2.2.2.2.trans d.2.2.2.2⟩
end PGs
