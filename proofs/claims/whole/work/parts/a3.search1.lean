section SEARCH1
variable {σ σ1 σ2 σ' : Hp} {S S' : MS} {V : Vt} {E : Nat} {L : List Nat} {dq : Nat → Nat} {fa : Bool}
/-- what a search changes of the class -/
def Sf (L : List Nat) (σ σ' : Hp) : Prop := (σ'.kd = σ.kd ∧ σ'.ln = σ.ln ∧ σ'.rr = σ.rr ∧ σ'.nx = σ.nx ∧ σ'.us = σ.us) ∧ (∀ i x, x ≠ 14 → σ'.fr i x = σ.fr i x) ∧ (∀ x, x < 15 ∨ 18 < x → x < 30 ∨ 32 < x → σ'.ar x = σ.ar x) ∧ (∀ i x, x ≠ 29 → i < 311 ∨ 313 < i ∨ x ∉ L → σ'.fi i x = σ.fi i x)
theorem Sf.rfl : Sf L σ σ := ⟨⟨Eq.refl _, Eq.refl _, Eq.refl _, Eq.refl _, Eq.refl _⟩, fun _ _ _ => Eq.refl _, fun _ _ _ => Eq.refl _, fun _ _ _ _ => Eq.refl _⟩
theorem Sf.tr (h : Sf L σ σ1) (g : Sf L σ1 σ2) : Sf L σ σ2 := by
  obtain ⟨⟨a1, a2, a3, a4, a5⟩, a6, a7, a8⟩ := h
  obtain ⟨⟨b1, b2, b3, b4, b5⟩, b6, b7, b8⟩ := g
  exact ⟨⟨b1.trans a1, b2.trans a2, b3.trans a3, b4.trans a4, b5.trans a5⟩, fun i x h => (b6 i x h).trans (a6 i x h), fun x h k => (b7 x h k).trans (a7 x h k), fun i x h k => (b8 i x h k).trans (a8 i x h k)⟩
theorem Sf.mr (h : Mr σ σ1) : Sf L σ σ1 := ⟨⟨h.1.1, h.1.2.1, h.1.2.2.2.1, h.1.2.2.2.2.1, h.1.2.2.2.2.2⟩, fun i x hx => h.2.2 i x hx, fun x hx _ => h.2.1 x (by omega), fun i x _ _ => by rw [h.1.2.2.1]⟩
theorem Sf.o {i : Nat} {v : Int32} : Sf L σ (sfi σ i 29 v) := ⟨⟨kd_sfi, ln_sfi, rr_sfi, nx_sfi, us_sfi⟩, fun _ _ _ => by rw [fr_sfi], fun _ _ _ => by rw [ar_sfi], fun j x hx _ => by rw [fi_sfi, if_neg (fun q => hx q.2)]⟩
theorem Sf.p {i a : Nat} {v : Int32} (hi : 311 ≤ i ∧ i ≤ 313) (ha : a ∈ L) : Sf L σ (sfi σ i a v) := ⟨⟨kd_sfi, ln_sfi, rr_sfi, nx_sfi, us_sfi⟩, fun _ _ _ => by rw [fr_sfi], fun _ _ _ => by rw [ar_sfi], fun j x _ hj => by
  rw [fi_sfi, if_neg (fun q => ?_)]
  obtain ⟨rfl, rfl⟩ := q
  rcases hj with h | h | h
  · omega
  · omega
  · exact h ha⟩
theorem Sf.w {a : Nat} {f : Nat → Int32} (ha : 30 ≤ a ∧ a ≤ 32) : Sf L σ (saw σ a f) := ⟨⟨kd_saw, ln_saw, rr_saw, nx_saw, us_saw⟩, fun _ _ _ => by rw [fr_saw], fun x _ hx => ar_saw_ne (by omega), fun j x _ _ => by rw [fi_saw]⟩
theorem St.sf (h : St σ 3 E L V) (lo : Lo E L) (f : Sf L σ σ') : St σ' 3 E L V := by
  obtain ⟨⟨f1, f2, f3, f4, f5⟩, f6, f7, f8⟩ := f
  obtain ⟨⟨⟨a1, a2, a3, a4, a5⟩, ⟨b1, b2, b3, b4⟩, ⟨c1, c2, c3, c4, c5⟩, ⟨d1, d2, d3, d4⟩, w, t⟩, ⟨h2, h3⟩, ⟨⟨e1, e2, e3, e4⟩, h5, h6⟩, h7, h8, h9, h10⟩ := h
  have lp : ∀ a ∈ L, a ≠ 14 ∧ a ≠ 29 ∧ ∀ x, a ≤ x → x ≤ a + 3 → (x < 15 ∨ 18 < x) ∧ (x < 30 ∨ 32 < x) := fun a ha => by
    have q : ∀ x, a ≤ x → x ≤ a + 3 → (3 ≤ x ∧ x < 14) ∨ 60 ≤ x := fun x y z => lo x (Or.inr (Or.inr ⟨a, ha, y, z⟩))
    have q0 := q a (by omega) (by omega)
    exact ⟨by omega, by omega, fun x y z => by have := q x y z; omega⟩
  have pg : ∀ a ∈ L, PG σ a → PG σ' a := fun a ha pg => by
    obtain ⟨l1, l2, l3⟩ := lp a ha
    unfold PG
    rw [f1, f2, f6 _ _ l1, f6 _ _ l1, f6 _ _ l1]
    exact pg
  refine ⟨⟨by rw [f1]; exact ⟨a1, a2, a3, a4, a5⟩, by rw [f2]; exact ⟨b1, b2, b3, b4⟩, ⟨by rw [f6 _ _ (by decide)]; exact c1, by rw [f6 _ _ (by decide)]; exact c2, by rw [f6 _ _ (by decide)]; exact c3, by rw [f6 _ _ (by decide)]; exact c4, by rw [f6 _ _ (by decide)]; exact c5⟩, ⟨by rw [f8 _ _ (by decide) (by omega)]; exact d1, by rw [f8 _ _ (by decide) (by omega)]; exact d2, by rw [f8 _ _ (by decide) (by omega)]; exact d3, by rw [f8 _ _ (by decide) (by omega)]; exact d4⟩, by rw [f7 _ (by decide) (by decide)]; exact w, by rw [f7 _ (by decide) (by decide), f7 _ (by decide) (by decide), f7 _ (by decide) (by decide)]; exact t⟩, ⟨by rw [f8 _ _ (by decide) (by omega)]; exact h2, by rw [f8 _ _ (by decide) (by omega)]; exact h3⟩, ⟨⟨by rw [f1]; exact e1, by rw [f6 _ _ (by decide)]; exact e2, by rw [f8 _ _ (by decide) (by omega)]; exact e3, e4⟩, by rw [f1, f2]; exact h5, by rw [f1, f3]; exact h6⟩, h7, fun a ha => pg a ha (h8 a ha), h9, fun p a hp ha => ?_⟩
  have aL := List.mem_of_getElem? ha
  obtain ⟨l1, l2, l3⟩ := lp a aL
  obtain ⟨g1, g2, g3⟩ := h10 p a hp ha
  refine ⟨pg a aL g1, by rw [f8 _ _ l2 (by omega), f8 _ _ l2 (by omega), f8 _ _ l2 (by omega)]; exact g2, ?_⟩
  rw [f7 _ (l3 _ (by omega) (by omega)).1 (l3 _ (by omega) (by omega)).2, f7 _ (l3 _ (by omega) (by omega)).1 (l3 _ (by omega) (by omega)).2, f7 _ (l3 _ (by omega) (by omega)).1 (l3 _ (by omega) (by omega)).2]
  exact g3
theorem Tv.sf (h : Tv σ V) (f : Sf L σ σ') : Tv σ' V := by
  obtain ⟨⟨f1, f2, f3, f4, f5⟩, f6, f7, f8⟩ := f
  unfold Tv
  rw [f1, f2, f6 _ _ (by decide), f6 _ _ (by decide), f6 _ _ (by decide), f6 _ _ (by decide), f6 _ _ (by decide), f6 _ _ (by decide), f7 20 (by decide) (by decide)]
  exact h
/-- the search's own cells -/
def Ck (σ : Hp) : Prop := (σ.kd 29 = 16 ∧ σ.kd 30 = 1 ∧ σ.kd 31 = 1 ∧ σ.kd 32 = 1) ∧ (σ.ln 30 = 40 ∧ σ.ln 31 = 40 ∧ σ.ln 32 = 40) ∧ (σ.fr 600 29 = 3 ∧ σ.fr 601 29 = 19 ∧ σ.fr 602 29 = 14 ∧ σ.fr 610 29 = 30 ∧ σ.fr 611 29 = 31 ∧ σ.fr 612 29 = 32)
theorem Ck.sf (h : Ck σ) (f : Sf L σ σ') : Ck σ' := by
  obtain ⟨⟨f1, f2, f3, f4, f5⟩, f6, f7, f8⟩ := f
  unfold Ck
  rw [f1, f2, f6 _ _ (by decide), f6 _ _ (by decide), f6 _ _ (by decide), f6 _ _ (by decide), f6 _ _ (by decide), f6 _ _ (by decide)]
  exact h
theorem Ck.i (h : Ck σ) (i : Nat) : gfi σ 16 i 29 = some (σ.fi i 29) := gfi_ok h.1.1
theorem Ck.c (h : Ck σ) {Y : Type} {o : Option Y} : ckd σ 29 16 o = o := ckd_ok h.1.1
theorem Ck.s (h : Ck σ) : gfr σ 16 600 29 = some 3 := by rw [gfr_ok h.1.1, h.2.2.1]
theorem Ck.f (h : Ck σ) : gfr σ 16 601 29 = some 19 := by rw [gfr_ok h.1.1, h.2.2.2.1]
theorem Ck.m (h : Ck σ) : gfr σ 16 602 29 = some 14 := by rw [gfr_ok h.1.1, h.2.2.2.2.1]
theorem Ck.k (h : Ck σ) : gfr σ 16 610 29 = some 30 := by rw [gfr_ok h.1.1, h.2.2.2.2.2.1]
theorem Ck.r (h : Ck σ) : gfr σ 16 611 29 = some 31 := by rw [gfr_ok h.1.1, h.2.2.2.2.2.2.1]
theorem Ck.o (h : Ck σ) : gfr σ 16 612 29 = some 32 := by rw [gfr_ok h.1.1, h.2.2.2.2.2.2.2]
theorem Ck.pf (h : Ck σ) (i : Nat) (v : Int32) : pfi σ 16 i 29 v = some (sfi σ i 29 v) := pfi_ok h.1.1
/-- what is asked: from a word or from a thing -/
def Qcl (σ : Hp) (V : Vt) (dq : Nat → Nat) : Prop := σ.fi 617 29 = 1 ∧ ((σ.fi 604 29 = -1 ∧ ∃ w, isW w ∧ σ.fi 603 29 = nI w ∧ dq = fun t => apart V.M w (V.W t)) ∨ ∃ f, hs V f ∧ σ.fi 604 29 = nI f ∧ dq = fun t => far V f t)
def Qrf (S : MS) (V : Vt) (dq : Nat → Nat) : Prop := (S.2 30 = -1 ∧ ∃ w, isW w ∧ S.2 31 = nI w ∧ dq = fun t => apart V.M w (V.W t)) ∨ ∃ f, hs V f ∧ S.2 30 = nI f ∧ dq = fun t => far V f t
theorem Qcl.le (h : Qcl σ V dq) (hv : Vw V) (t : Nat) : dq t ≤ 99 := by
  rcases h.2 with ⟨-, w, -, -, rfl⟩ | ⟨f, -, -, rfl⟩
  · have := apart_le V.M w (V.W t)
    show apart V.M w (V.W t) ≤ 99
    omega
  · exact far_le hv f t
theorem Qcl.cg (h : Qcl σ V dq) (h1 : σ'.fi 603 29 = σ.fi 603 29) (h2 : σ'.fi 604 29 = σ.fi 604 29) (h3 : σ'.fi 617 29 = σ.fi 617 29) : Qcl σ' V dq := by unfold Qcl; rw [h1, h2, h3]; exact h
/-- measured distances -/
def KV (σ : Hp) (dq : Nat → Nat) (K : Nat → Bool) : Prop := ∀ t, t < 40 → σ.ar 30 t = if K t = true then nI (dq t) else -1
def KR (S : MS) (dq : Nat → Nat) (K : Nat → Bool) : Prop := ∀ t, t < 40 → S.1 17 t = if K t = true then nI (dq t) else -1
def kup (K : Nat → Bool) (t : Nat) : Nat → Bool := fun x => if x = t then true else K x
/-- the distance to a thing is measured once -/
theorem c_farTo {K : Nat → Bool} {pd t r q : Nat} (st : St σ 3 E L V) (tv : Tv σ V) (mo : Mo σ r q) (ck : Ck σ) (hv : Vw V) (qc : Qcl σ V dq) (kv : KV σ dq K) (hp : σ.fi 614 29 = nI pd) (ht : hs V t) : ∃ σ', kX6_farTo σ 29 (nI t) = some (nI (dq t), σ') ∧ (∃ r' q', Mo σ' r' q') ∧ Sf L σ σ' ∧ KV σ' dq (kup K t) ∧ σ'.fi 614 29 = nI (pd + if K t = true then 0 else 1) ∧ (∀ i x, ¬ (i = 614 ∧ x = 29) → σ'.fi i x = σ.fi i x) ∧ (σ'.ar 31 = σ.ar 31 ∧ σ'.ar 32 = σ.ar 32) := by
  have t40 := ht.1
  have d99 := qc.le hv t
  unfold kX6_farTo
  rw [ck.k, bind_s, ald_ok ck.1.2.1 (by rw [ck.2.1.1]; exact t40) (by omega), bind_s, kv t t40]
  by_cases k : K t = true
  · rw [if_pos k, if_neg (fun y => (nI_m1 (by omega)).mp y)]
    unfold kX6_farTo_76
    rw [ck.k, bind_s, ald_ok ck.1.2.1 (by rw [ck.2.1.1]; exact t40) (by omega), bind_s, kv t t40, if_pos k]
    refine ⟨σ, rfl, ⟨r, q, mo⟩, Sf.rfl, fun x hx => ?_, by rw [if_pos k]; exact hp, fun _ _ _ => rfl, rfl, rfl⟩
    rw [kv x hx]
    unfold kup
    by_cases z : x = t
    · rw [if_pos z, z, if_pos k, if_pos rfl]
    · rw [if_neg z]
  · rw [if_neg k, if_pos rfl, ck.i, hp, bind_s, ck.pf, bind_s, nI_1, if_neg k]
    generalize hs7 : sfi σ 614 29 (nI (pd + 1)) = s7
    have sf7 : Sf L σ s7 := by rw [← hs7]; exact Sf.o
    have ck7 := ck.sf sf7
    have qc7 : Qcl s7 V dq := qc.cg (by rw [← hs7, fi_sfi, if_neg (by decide)]) (by rw [← hs7, fi_sfi, if_neg (by decide)]) (by rw [← hs7, fi_sfi, if_neg (by decide)])
    have mo7 : Mo s7 r q := by rw [← hs7]; exact mo
    have p7 : s7.fi 614 29 = nI (pd + 1) := by rw [← hs7, fi_sfi, if_pos ⟨rfl, rfl⟩]
    have i7 : ∀ i x, ¬ (i = 614 ∧ x = 29) → s7.fi i x = σ.fi i x := fun i x h => by rw [← hs7, fi_sfi, if_neg h]
    have r7 : s7.ar = σ.ar := by rw [← hs7]; rfl
    rw [ck7.k, bind_s, ck7.i, bind_s]
    have fin : ∀ s8 : Hp, (∃ r' q', Mo s8 r' q') → Ck s8 → Sf L σ s8 → s8.ar 30 = σ.ar 30 → s8.ar 31 = σ.ar 31 → s8.ar 32 = σ.ar 32 → s8.fi = s7.fi → ∃ σ', kX6_farTo_75 29 (nI t) 30 (nI t) (nI (dq t)) s8 = some (nI (dq t), σ') ∧ (∃ r' q', Mo σ' r' q') ∧ Sf L σ σ' ∧ KV σ' dq (kup K t) ∧ σ'.fi 614 29 = nI (pd + 1) ∧ (∀ i x, ¬ (i = 614 ∧ x = 29) → σ'.fi i x = σ.fi i x) ∧ (σ'.ar 31 = σ.ar 31 ∧ σ'.ar 32 = σ.ar 32) := by
      intro s8 ⟨r', q', m8⟩ c8 f8 a0 a1 a2 i8
      unfold kX6_farTo_75 kX6_farTo_76
      rw [ast_saw c8.1.2.1 (by rw [c8.2.1.1]; exact t40) (by omega), bind_s]
      have c9 : Ck (saw s8 30 (upd (s8.ar 30) t (nI (dq t)))) := c8
      rw [c9.k, bind_s, ald_ok c9.1.2.1 (by rw [c9.2.1.1]; exact t40) (by omega), bind_s, ar_saw, upd_s]
      refine ⟨_, rfl, ⟨r', q', m8⟩, f8.tr (Sf.w (by omega)), fun x hx => ?_, by rw [fi_saw, i8]; exact p7, fun i x h => by rw [fi_saw, i8]; exact i7 i x h, by rw [ar_saw_ne (by decide)]; exact a1, by rw [ar_saw_ne (by decide)]; exact a2⟩
      rw [ar_saw, a0]
      unfold kup
      by_cases z : x = t
      · rw [z, upd_s, if_pos rfl, if_pos rfl]
      · rw [upd_n z, if_neg z]; exact kv x hx
    rcases qc7.2 with ⟨z1, w, z2, z3, z4⟩ | ⟨f, z2, z3, z4⟩
    · have hd := st.1
      have m3 : s7.fi 706 3 = nI V.M := by rw [i7 _ _ (by decide)]; exact hd.2.2.2.1.2.2.1
      have k3 : s7.kd 3 = 17 := by rw [sf7.1.1]; exact hd.1.1
      have f3 : s7.fr 700 3 = 4 := by rw [sf7.2.1 _ _ (by decide)]; exact hd.2.2.1.1
      have k4 : s7.kd 4 = 1 := by rw [sf7.1.1]; exact hd.1.2.1
      have l4 : s7.ln 4 = 40 := by rw [sf7.1.2.1]; exact hd.2.1.1
      have wt : s7.ar 4 t = nI (V.W t) := by rw [r7]; exact hd.2.2.2.2.1 t t40
      obtain ⟨s8, r', q', g1, g2, g3⟩ := kX2_between_eq (w := w) (v := V.W t) (μ := V.M) mo7 (by have := isW_lt z2; omega) (by have := isW_lt (hv.w ht); omega) hv.2.1
      rw [z1, if_pos rfl, ck7.m, bind_s, ck7.s, bind_s, gfi_ok k3, m3, bind_s, ck7.i, z3, bind_s, bind_s, gfr_ok k3, f3, bind_s, ald_ok k4 (by rw [l4]; exact t40) (by omega), wt, bind_s, ckd_ok mo7.1.1, g1, bd2_s]
      have e : dq t = apart V.M w (V.W t) := by rw [z4]
      rw [← e]
      exact fin s8 ⟨r', q', g3⟩ (ck7.sf (L := L) (Sf.mr g2)) (sf7.tr (Sf.mr g2)) (by rw [g2.2.1 30 (by decide), r7]) (by rw [g2.2.1 31 (by decide), r7]) (by rw [g2.2.1 32 (by decide), r7]) g2.1.2.2.1
    · have f40 := z2.1
      have tv7 := tv.sf sf7
      rw [z3, if_neg (fun y => (nI_m1 (by omega)).mp y), ck7.f, bind_s, bind_s, tv7.kf, tv7.of z2 ht, bind_s]
      have e : dq t = far V f t := by rw [z4]
      rw [← e]
      exact fin s7 ⟨r, q, mo7⟩ ck7 sf7 (by rw [r7]) (by rw [r7]) (by rw [r7]) rfl
/-- what a search changes of the reference -/
theorem len17 : m_len 17 = 40 ∧ m_len 18 = 40 ∧ m_len 19 = 784 ∧ m_len 20 = 784 ∧ m_len 21 = 784 := ⟨rfl, rfl, rfl, rfl, rfl⟩
theorem r_wayTo_eq {K : Nat → Bool} {pd t : Nat} (rw0 : RW (S.1 0) 2 V) (hv : Vw V) (qr : Qrf S V dq) (kr : KR S dq K) (hp : S.2 27 = nI pd) (ht : hs V t) (d99 : dq t ≤ 99) : ∃ S', r_wayTo S (nI t) = some (nI (dq t), S') ∧ KR S' dq (kup K t) ∧ S'.2 27 = nI (pd + if K t = true then 0 else 1) ∧ (∀ j, j ≠ 2 → j ≠ 3 → j ≠ 17 → S'.1 j = S.1 j) ∧ (∀ k, k ≠ 27 → S'.2 k = S.2 k) := by
  have t40 := ht.1
  unfold r_wayTo
  rw [rd_ok (by rw [len17.1]; exact t40) (by omega), bind_s, kr t t40]
  by_cases k : K t = true
  · rw [if_pos k, if_neg (fun y => (nI_m1 (by omega)).mp y)]
    unfold r_wayTo_59
    rw [rd_ok (by rw [len17.1]; exact t40) (by omega), bind_s, kr t t40, if_pos k]
    refine ⟨S, rfl, fun x hx => ?_, by rw [if_pos k]; exact hp, fun _ _ _ _ => rfl, fun _ _ => rfl⟩
    rw [kr x hx]
    unfold kup
    by_cases z : x = t
    · rw [if_pos z, z, if_pos k, if_pos rfl]
    · rw [if_neg z]
  · rw [if_neg k, if_pos rfl, if_neg k]
    have fin : ∀ S8 : MS, S2 S S8 → ∃ S', r_wayTo_48 (nI t) (nI t) (nI (dq t)) S8 = some (nI (dq t), S') ∧ KR S' dq (kup K t) ∧ S'.2 27 = nI (pd + 1) ∧ (∀ j, j ≠ 2 → j ≠ 3 → j ≠ 17 → S'.1 j = S.1 j) ∧ (∀ k, k ≠ 27 → S'.2 k = S.2 k) := by
      intro S8 h8
      unfold r_wayTo_48 r_wayTo_59
      rw [wr_ok (by rw [len17.1]; exact t40) (by omega), bind_s, rd_ok (by rw [len17.1]; exact t40) (by omega), bind_s]
      refine ⟨pf (up2 S8.1 17 t (nI (dq t)), S8.2) 27 (S8.2 27 + 1), ?_, fun x hx => ?_, ?_, fun j h2 h3 h17 => ?_, fun k hk => ?_⟩
      · show some (up2 S8.1 17 t (nI (dq t)) 17 t, _) = _
        rw [up2_s]
      · show up2 S8.1 17 t (nI (dq t)) 17 x = _
        unfold kup
        by_cases z : x = t
        · rw [z, up2_s, if_pos rfl, if_pos rfl]
        · rw [up2_n (fun y => z y.2), if_neg z, h8.r (by decide) (by decide)]; exact kr x hx
      · rw [pf_s]
        show S8.2 27 + 1 = _
        rw [h8.f, hp, nI_1]
      · rw [pf_1]
        show up2 S8.1 17 t (nI (dq t)) j = _
        rw [up2_r h17, h8.r h2 h3]
      · rw [pf_n hk]
        show S8.2 k = _
        rw [h8.f]
    rcases qr with ⟨z1, w, z2, z3, z4⟩ | ⟨f, z2, z3, z4⟩
    · obtain ⟨S8, g1, g2⟩ := r_apartOf_eq (S := S) z2 (hv.w ht) hv.2.1 rw0.1.1
      have e : dq t = apart V.M w (V.W t) := by rw [z4]
      rw [if_pos z1, r_wordOf_eq rw0 t40, bind_s, z3, g1, bd2_s, ← e]
      exact fin S8 g2
    · have f40 := z2.1
      obtain ⟨S8, g1, g2⟩ := r_farOf_eq rw0 hv z2 ht
      have e : dq t = far V f t := by rw [z4]
      rw [z3, if_neg (fun y => (nI_m1 (by omega)).mp y), g1, bd2_s, ← e]
      exact fin S8 g2
end SEARCH1
