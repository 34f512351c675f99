section TAKE
variable {σ : Hp} {S : MS} {dq : Nat → Nat} {fa : Bool}
/-- the found ones in the class: a list, with their ranks -/
def Cf (σ : Hp) (fa : Bool) (dq : Nat → Nat) (C : List Nat) : Prop := σ.fi 613 29 = nI C.length ∧ C.length ≤ 40 ∧ ∀ (i t : Nat), C[i]? = some t → σ.ar 32 i = nI t ∧ σ.ar 31 i = sg fa (dq t)
/-- the search's limit: it stays, or is the last one's rank when enough are found -/
def Clm (σ : Hp) (fa : Bool) (dq : Nat → Nat) (C : List Nat) (stays : Bool) (most lim : Nat) : Prop := σ.fi 605 29 = bI (fa = true) ∧ σ.fi 606 29 = bI (stays = true) ∧ σ.fi 608 29 = nI most ∧ (stays = true → σ.fi 607 29 = nI lim) ∧ (stays = false → ∀ t, C.length = most → C[most - 1]? = some t → σ.fi 607 29 = sg fa (dq t))
/-- rows 31, 32 and fields 613, 607 alone -/
def Tf (σ σ' : Hp) : Prop := (σ'.kd = σ.kd ∧ σ'.ln = σ.ln ∧ σ'.fr = σ.fr ∧ σ'.rr = σ.rr ∧ σ'.nx = σ.nx ∧ σ'.us = σ.us) ∧ (∀ x, x ≠ 31 → x ≠ 32 → σ'.ar x = σ.ar x) ∧ (∀ i x, ¬ (x = 29 ∧ (i = 607 ∨ i = 613)) → σ'.fi i x = σ.fi i x)
theorem Tf.rfl : Tf σ σ := ⟨⟨Eq.refl _, Eq.refl _, Eq.refl _, Eq.refl _, Eq.refl _, Eq.refl _⟩, fun _ _ _ => Eq.refl _, fun _ _ _ => Eq.refl _⟩
theorem Tf.tr {σ1 σ2 : Hp} (h : Tf σ σ1) (g : Tf σ1 σ2) : Tf σ σ2 := by
  obtain ⟨⟨a1, a2, a3, a4, a5, a6⟩, a7, a8⟩ := h
  obtain ⟨⟨b1, b2, b3, b4, b5, b6⟩, b7, b8⟩ := g
  exact ⟨⟨b1.trans a1, b2.trans a2, b3.trans a3, b4.trans a4, b5.trans a5, b6.trans a6⟩, fun x h k => (b7 x h k).trans (a7 x h k), fun i x h => (b8 i x h).trans (a8 i x h)⟩
theorem Tf.i {i : Nat} {v : Int32} (h : i = 607 ∨ i = 613) : Tf σ (sfi σ i 29 v) := ⟨⟨kd_sfi, ln_sfi, fr_sfi, rr_sfi, nx_sfi, us_sfi⟩, fun _ _ _ => by rw [ar_sfi], fun j x hx => by rw [fi_sfi, if_neg (fun q => hx ⟨q.2, by rw [q.1]; exact h⟩)]⟩
theorem Tf.a {a : Nat} {f : Nat → Int32} (h : a = 31 ∨ a = 32) : Tf σ (saw σ a f) := ⟨⟨kd_saw, ln_saw, fr_saw, rr_saw, nx_saw, us_saw⟩, fun x h1 h2 => ar_saw_ne (by omega), fun j x _ => by rw [fi_saw]⟩
theorem Tf.ck {σ' : Hp} (f : Tf σ σ') (h : Ck σ) : Ck σ' := by
  unfold Ck
  rw [f.1.1, f.1.2.1, f.1.2.2.1]
  exact h
theorem Tf.sf {L : List Nat} {σ' : Hp} (f : Tf σ σ') : Sf L σ σ' := ⟨⟨f.1.1, f.1.2.1, f.1.2.2.2.1, f.1.2.2.2.2.1, f.1.2.2.2.2.2⟩, fun i x _ => by rw [f.1.2.2.1], fun x _ h => f.2.1 x (by omega) (by omega), fun i x h _ => f.2.2 i x (fun q => h q.1)⟩
theorem c_isAhead (ck : Ck σ) {C : List Nat} (cf : Cf σ fa dq C) (hd : ∀ t, dq t < 2 ^ 31) (h40 : ∀ x ∈ C, x < 40) {t n x : Nat} (ht : t < 40) (hn : C[n]? = some x) : (ah fa dq t x → kX6_isAhead σ 29 (sg fa (dq t)) (nI t) (nI n) = some 1) ∧ (¬ ah fa dq t x → kX6_isAhead σ 29 (sg fa (dq t)) (nI t) (nI n) = some 0) := by
  have nl := (List.getElem?_eq_some_iff.mp hn).1
  have c40 := cf.2.1
  obtain ⟨e1, e2⟩ := cf.2.2 n x hn
  have x40 := h40 x (List.mem_of_getElem? hn)
  have r31 : ald σ 1 31 (nI n) = some (sg fa (dq x)) := by rw [ald_ok ck.1.2.2.1 (by rw [ck.2.1.2.1]; omega) (by omega), e2]
  have r32 : ald σ 1 32 (nI n) = some (nI x) := by rw [ald_ok ck.1.2.2.2 (by rw [ck.2.1.2.2]; omega) (by omega), e1]
  have key : kX6_isAhead σ 29 (sg fa (dq t)) (nI t) (nI n) = if sg fa (dq t) < sg fa (dq x) then some 1 else if sg fa (dq t) = sg fa (dq x) then (if nI x ≤ nI t then some 0 else some 1) else some 0 := by
    unfold kX6_isAhead kX6_isAhead_30
    simp only [ck.r, ck.o, bind_s, r31, r32]
    rfl
  rw [key]
  unfold ah
  constructor
  · rintro (h | ⟨h1, h2⟩)
    · rw [if_pos ((sg_lt (hd t) (hd x)).mpr h)]
    · rw [h1, if_neg (fun y => ba_irr ((sg_lt (hd x) (hd x)).mp y)), if_pos rfl, if_neg (nI_ge h2 (by omega))]
  · intro h
    rw [if_neg (fun y => h (Or.inl ((sg_lt (hd t) (hd x)).mp y)))]
    by_cases z : dq t = dq x
    · rw [if_pos (by rw [z]), if_pos (nI_le (Nat.le_of_not_lt (fun y => h (Or.inr ⟨z, y⟩))) (by omega))]
    · rw [if_neg (fun y => z ((sg_eq (hd t) (hd x)).mp y))]
/-- make room at a place, and write -/
theorem c_take99 {stays : Bool} {t p : Nat} {C : List Nat} (hp : p ≤ C.length) (cn : Nat) (hcn : p ≤ cn ∧ cn ≤ C.length ∧ cn < 40) : ∀ (m F : Nat) (σ : Hp), m < F → p + m ≤ cn → Ck σ → σ.fi 613 29 = nI (cn + 1) → σ.fi 606 29 = bI (stays = true) → (∀ i, i < p + m → ∀ x, C[i]? = some x → σ.ar 32 i = nI x ∧ σ.ar 31 i = sg fa (dq x)) → (∀ i, p + m < i → i ≤ cn → ∀ x, C[i - 1]? = some x → σ.ar 32 i = nI x ∧ σ.ar 31 i = sg fa (dq x)) → ∃ σ', kX6_take_99 F 29 (nI t) (sg fa (dq t)) (nI p) (nI (p + m)) σ = some σ' ∧ Tf σ σ' ∧ σ'.fi 613 29 = nI (cn + 1) ∧ (∀ i x, i ≤ cn → (lin C p t)[i]? = some x → σ'.ar 32 i = nI x ∧ σ'.ar 31 i = sg fa (dq x)) ∧ (stays = true → σ'.fi 607 29 = σ.fi 607 29) ∧ (stays = false → ∀ x, (lin C p t)[cn]? = some x → σ'.fi 607 29 = sg fa (dq x))
  | m, 0, _, h, _, _, _, _, _, _ => absurd h (Nat.not_lt_zero m)
  | 0, F + 1, σ, _, hm, ck, f13, f6, lo, hi => by
    rw [Nat.add_zero] at lo hi
    show ∃ σ', kX6_take_99 (F + 1) 29 (nI t) (sg fa (dq t)) (nI p) (nI p) σ = some σ' ∧ _
    have ck1 : Ck (saw σ 32 (upd (σ.ar 32) p (nI t))) := (Tf.a (Or.inr rfl)).ck ck
    have r31 : (saw σ 32 (upd (σ.ar 32) p (nI t))).ar 31 = σ.ar 31 := ar_saw_ne (by decide)
    have h1 := ast_saw (v := sg fa (dq t)) (k := p) ck1.1.2.2.1 (by rw [ck1.2.1.2.1]; omega) (by omega)
    rw [r31] at h1
    obtain ⟨s4, hs4⟩ : ∃ s4, saw (saw σ 32 (upd (σ.ar 32) p (nI t))) 31 (upd (σ.ar 31) p (sg fa (dq t))) = s4 := ⟨_, rfl⟩
    rw [hs4] at h1
    have tf : Tf σ s4 := by rw [← hs4]; exact (Tf.a (Or.inr rfl)).tr (Tf.a (Or.inl rfl))
    have ck2 : Ck s4 := tf.ck ck
    have fi4 : s4.fi = σ.fi := by rw [← hs4, fi_saw, fi_saw]
    have rows : ∀ i x, i ≤ cn → (lin C p t)[i]? = some x → s4.ar 32 i = nI x ∧ s4.ar 31 i = sg fa (dq x) := fun i x hi2 hx => by
      rw [← hs4, ar_saw_ne (show 32 ≠ 31 by decide), ar_saw, ar_saw]
      rw [lin_get hp] at hx
      by_cases z : i = p
      · rw [if_neg (by omega), if_pos z] at hx
        cases hx
        rw [z, upd_s, upd_s]
        exact ⟨rfl, rfl⟩
      · rw [upd_n z, upd_n z]
        by_cases y : i < p
        · rw [if_pos y] at hx
          exact lo i y x hx
        · rw [if_neg y, if_neg z] at hx
          exact hi i (by omega) hi2 x hx
    rw [kX6_take_99.eq_2, if_pos (nI_le (Nat.le_refl p) (by omega)), ck.o, bind_s, ast_saw ck.1.2.2.2 (by rw [ck.2.1.2.2]; omega) (by omega), bind_s, ck1.r, bind_s, h1, bind_s, ck2.i, bind_s, fi4, f6, bI_0']
    cases stays with
    | true =>
      rw [if_neg (by decide)]
      exact ⟨s4, rfl, tf, by rw [fi4]; exact f13, rows, fun _ => by rw [fi4], fun y => (by cases y)⟩
    | false =>
      obtain ⟨x, hx⟩ : ∃ x, (lin C p t)[cn]? = some x := ⟨_, List.getElem?_eq_getElem (by rw [lin_len hp]; omega)⟩
      rw [if_pos (by decide), ck2.r, bind_s, ck2.i, bind_s, fi4, f13, show nI (cn + 1) - 1 = nI cn by rw [show (1 : Int32) = nI 1 from rfl, pk_sub (by omega)]; rfl, ald_ok ck2.1.2.2.1 (by rw [ck2.2.1.2.1]; omega) (by omega), (rows cn x (Nat.le_refl _) hx).2, bind_s, ck2.pf, bind_s]
      refine ⟨_, rfl, tf.tr (Tf.i (Or.inl rfl)), by rw [fi_sfi, if_neg (by decide), fi4]; exact f13, fun i x h1 h2 => by rw [ar_sfi]; exact rows i x h1 h2, fun y => (by cases y), fun _ y hy => ?_⟩
      rw [hx] at hy
      cases hy
      rw [fi_sfi, if_pos ⟨rfl, rfl⟩]
  | m + 1, F + 1, σ, hF, hm, ck, f13, f6, lo, hi => by
    obtain ⟨y, hy⟩ : ∃ y, C[p + m]? = some y := ⟨_, List.getElem?_eq_getElem (by omega)⟩
    obtain ⟨y1, y2⟩ := lo (p + m) (by omega) y hy
    have ck1 : Ck (saw σ 32 (upd (σ.ar 32) (p + m + 1) (nI y))) := (Tf.a (Or.inr rfl)).ck ck
    have r31 : (saw σ 32 (upd (σ.ar 32) (p + m + 1) (nI y))).ar 31 = σ.ar 31 := ar_saw_ne (by decide)
    have h0 := ast_saw (v := nI y) (k := p + m + 1) ck.1.2.2.2 (by rw [ck.2.1.2.2]; omega) (by omega)
    have h1 := ast_saw (v := sg fa (dq y)) (k := p + m + 1) ck1.1.2.2.1 (by rw [ck1.2.1.2.1]; omega) (by omega)
    have g1 : ald (saw σ 32 (upd (σ.ar 32) (p + m + 1) (nI y))) 1 31 (nI (p + m)) = some (sg fa (dq y)) := by rw [ald_ok ck1.1.2.2.1 (by rw [ck1.2.1.2.1]; omega) (by omega), r31, y2]
    rw [r31] at h1
    obtain ⟨s4, hs4⟩ : ∃ s4, saw (saw σ 32 (upd (σ.ar 32) (p + m + 1) (nI y))) 31 (upd (σ.ar 31) (p + m + 1) (sg fa (dq y))) = s4 := ⟨_, rfl⟩
    rw [hs4] at h1
    have tf : Tf σ s4 := by rw [← hs4]; exact (Tf.a (Or.inr rfl)).tr (Tf.a (Or.inl rfl))
    have ck2 : Ck s4 := tf.ck ck
    have fi4 : s4.fi = σ.fi := by rw [← hs4, fi_saw, fi_saw]
    have cell : ∀ i, s4.ar 32 i = upd (σ.ar 32) (p + m + 1) (nI y) i ∧ s4.ar 31 i = upd (σ.ar 31) (p + m + 1) (sg fa (dq y)) i := fun i => by
      rw [← hs4, ar_saw_ne (show 32 ≠ 31 by decide), ar_saw, ar_saw]
      exact ⟨rfl, rfl⟩
    obtain ⟨s', k1, k2, k3, k4, k5, k6⟩ := c_take99 (stays := stays) (t := t) hp cn hcn m F s4 (by omega) (by omega) ck2 (by rw [fi4]; exact f13) (by rw [fi4]; exact f6) (fun i h x hx => by
      rw [(cell i).1, (cell i).2, upd_n (by omega), upd_n (by omega)]
      exact lo i (by omega) x hx) (fun i h1 h2 x hx => by
      rw [(cell i).1, (cell i).2]
      by_cases z : i = p + m + 1
      · rw [z] at hx ⊢
        rw [show p + m + 1 - 1 = p + m by omega, hy] at hx
        cases hx
        rw [upd_s, upd_s]
        exact ⟨rfl, rfl⟩
      · rw [upd_n z, upd_n z]
        exact hi i (by omega) h2 x hx)
    refine ⟨s', ?_, tf.tr k2, k3, k4, fun z => (k5 z).trans (by rw [fi4]), k6⟩
    rw [show p + (m + 1) = p + m + 1 by omega, kX6_take_99.eq_2, if_neg (nI_ge (by omega) (by omega)), ck.o, bind_s, bind_s, show nI (p + m + 1) - 1 = nI (p + m) by rw [show (1 : Int32) = nI 1 from rfl, pk_sub (by omega)]; rfl, ald_ok ck.1.2.2.2 (by rw [ck.2.1.2.2]; omega) (by omega), y1, bind_s, h0, bind_s, ck1.r, bind_s, bind_s, g1, bind_s, h1, bind_s, nI_dec (by omega), show p + m + 1 - 1 = p + m by omega]
    exact k1
/-- a found one is taken in -/
theorem c_take {stays : Bool} {most lim t p : Nat} {R : List Nat} (ck : Ck σ) (cf : Cf σ fa dq (R.take most)) (cl : Clm σ fa dq (R.take most) stays most lim) (hd : ∀ t, dq t < 2 ^ 31) (h40 : ∀ x ∈ R, x < 40) (ht : t < 40) (hm : 1 ≤ most ∧ most ≤ 40) (hp : p ≤ R.length) (c1 : ∀ i x, i < p → R[i]? = some x → ah fa dq x t) (c2 : ∀ i x, p ≤ i → R[i]? = some x → ah fa dq t x) (hs : stays = true → fa = false ∧ dq t ≤ lim ∧ lim < 2 ^ 31) : ∃ σ', kX6_take σ 29 (nI t) (sg fa (dq t)) = some σ' ∧ Tf σ σ' ∧ Cf σ' fa dq ((lin R p t).take most) ∧ Clm σ' fa dq ((lin R p t).take most) stays most lim := by
  obtain ⟨l1, l2, l3, l4, l5⟩ := id cl
  have h40c : ∀ x ∈ R.take most, x < 40 := fun x hx => h40 x (List.mem_of_mem_take hx)
  have C40 := cf.2.1
  have Clm' : (R.take most).length = min most R.length := List.length_take
  have st : kX6_take σ 29 (nI t) (sg fa (dq t)) = kX6_take_16 29 (nI t) (sg fa (dq t)) σ := by
    unfold kX6_take
    rw [ck.i, bind_s, l2, bI_0']
    cases stays with
    | false => rw [if_pos (by decide)]
    | true =>
      obtain ⟨h1, h2, h3⟩ := hs rfl
      subst h1
      rw [if_neg (by decide), ck.i, bind_s, l4 rfl, if_pos (show sg false (dq t) ≤ nI lim from nI_le h2 h3)]
  -- the place is found from behind
  have scan : ∀ (m F : Nat), m < F → m ≤ (R.take most).length → p ≤ m ∨ (R.take most).length = m → kX6_take_29 F 29 (nI t) (sg fa (dq t)) (nI m) (nI m - 1) σ = kX6_take_54 29 (nI t) (sg fa (dq t)) (nI (min p (R.take most).length)) σ := by
    intro m
    induction m with
    | zero =>
      intro F hF hm hpm
      obtain ⟨F, rfl⟩ : ∃ F', F = F' + 1 := ⟨F - 1, by omega⟩
      rw [kX6_take_29.eq_2, if_pos (by decide), show min p (R.take most).length = 0 by omega]
    | succ m ih =>
      intro F hF hm2 hpm
      obtain ⟨F, rfl⟩ : ∃ F', F = F' + 1 := ⟨F - 1, by omega⟩
      obtain ⟨x, hx⟩ : ∃ x, (R.take most)[m]? = some x := ⟨_, List.getElem?_eq_getElem (by omega)⟩
      have hxR : R[m]? = some x := by
        rw [List.getElem?_take] at hx
        split at hx
        · exact hx
        · cases hx
      obtain ⟨a1, a2⟩ := c_isAhead ck cf hd h40c ht hx
      rw [kX6_take_29.eq_2, show nI (m + 1) - 1 = nI m by rw [show (1 : Int32) = nI 1 from rfl, pk_sub (by omega)]; rfl, if_neg (nI_pos (by omega)), ck.c]
      by_cases z : p ≤ m
      · rw [a1 (c2 m x z hxR), bind_s, if_neg (by decide), ← Int32.sub_eq_add_neg]
        exact ih F (by omega) (by omega) (Or.inl z)
      · rw [a2 (fun y => ah_irr (ah_tr y (c1 m x (by omega) hxR))), bind_s, if_pos rfl, show min p (R.take most).length = m + 1 by omega]
  have st2 : kX6_take_16 29 (nI t) (sg fa (dq t)) σ = kX6_take_54 29 (nI t) (sg fa (dq t)) (nI (min p (R.take most).length)) σ := by
    unfold kX6_take_16
    rw [ck.i, bind_s, bind_s, cf.1]
    exact scan (R.take most).length FU (FU_gt (by omega)) (Nat.le_refl _) (Or.inr rfl)
  rw [st, st2]
  unfold kX6_take_54
  rw [ck.i, bind_s, l3]
  by_cases z : min p (R.take most).length < most
  · -- it goes in
    have pC : min p (R.take most).length = p := by omega
    rw [if_pos (nI_lt z (by omega)), ck.i, bind_s, bind_s, cf.1]
    rw [pC] at z ⊢
    have go : ∀ cn, (p ≤ cn ∧ cn ≤ (R.take most).length ∧ cn < 40) → cn + 1 = min most (R.length + 1) → ∃ σ', kX6_take_88 29 (nI t) (sg fa (dq t)) (nI p) 29 (nI (cn + 1)) σ = some σ' ∧ Tf σ σ' ∧ Cf σ' fa dq ((lin R p t).take most) ∧ Clm σ' fa dq ((lin R p t).take most) stays most lim := by
      intro cn hcn hcn2
      unfold kX6_take_88
      have tf0 : Tf σ (sfi σ 613 29 (nI (cn + 1))) := Tf.i (Or.inr rfl)
      have ck0 := tf0.ck ck
      obtain ⟨s', k1, k2, k3, k4, k5, k6⟩ := c_take99 (stays := stays) (t := t) (p := p) (C := R.take most) (fa := fa) (dq := dq) (by omega) cn hcn (cn - p) FU (sfi σ 613 29 (nI (cn + 1))) (FU_gt (by omega)) (by omega) ck0 (by rw [fi_sfi, if_pos ⟨rfl, rfl⟩]) (by rw [fi_sfi, if_neg (by decide)]; exact l2) (fun i h x hx => by rw [ar_sfi]; exact cf.2.2 i x hx) (fun i h1 h2 => by omega)
      rw [show p + (cn - p) = cn by omega] at k1
      have same : ∀ i, i ≤ cn → ((lin R p t).take most)[i]? = (lin (R.take most) p t)[i]? := fun i hi => by
        rw [List.getElem?_take, if_pos (by omega), lin_get hp, lin_get (by omega)]
        by_cases y : i < p
        · rw [if_pos y, if_pos y, List.getElem?_take, if_pos (by omega)]
        · rw [if_neg y, if_neg y]
          by_cases x : i = p
          · rw [if_pos x, if_pos x]
          · rw [if_neg x, if_neg x, List.getElem?_take, if_pos (by omega)]
      have ln : ((lin R p t).take most).length = cn + 1 := by rw [List.length_take, lin_len hp]; omega
      refine ⟨s', ?_, tf0.tr k2, ⟨by rw [ln]; exact k3, by omega, fun i x hx => ?_⟩, ?_, ?_, ?_, fun y => ?_, fun y x h1 h2 => ?_⟩
      · rw [ck.pf, bind_s, ck0.i, bind_s, fi_sfi, if_pos ⟨rfl, rfl⟩, show nI (cn + 1) - 1 = nI cn by rw [show (1 : Int32) = nI 1 from rfl, pk_sub (by omega)]; rfl]
        exact k1
      · have il := (List.getElem?_eq_some_iff.mp hx).1
        exact k4 i x (by omega) (by rw [← same i (by omega)]; exact hx)
      · rw [k2.2.2 605 29 (by decide), tf0.2.2 605 29 (by decide)]; exact l1
      · rw [k2.2.2 606 29 (by decide), tf0.2.2 606 29 (by decide)]; exact l2
      · rw [k2.2.2 608 29 (by decide), tf0.2.2 608 29 (by decide)]; exact l3
      · rw [k5 y, fi_sfi, if_neg (by decide)]; exact l4 y
      · rw [ln] at h1
        exact k6 y x (by rw [← same cn (Nat.le_refl _), show cn = most - 1 by omega]; exact h2)
    by_cases y : most ≤ (R.take most).length
    · rw [if_pos (nI_le y (by omega)), bind_s]
      obtain ⟨cn, rfl⟩ : ∃ cn, most = cn + 1 := ⟨most - 1, by omega⟩
      exact go cn (by omega) (by omega)
    · rw [if_neg (nI_ge (by omega) (by omega)), bind_s, nI_1]
      exact go (R.take most).length (by omega) (by omega)
  · rw [if_neg (nI_nlt (by omega) (by omega))]
    have e : (lin R p t).take most = R.take most := by
      apply List.ext_getElem?
      intro i
      rw [List.getElem?_take, List.getElem?_take]
      by_cases y : i < most
      · rw [if_pos y, if_pos y, lin_get hp, if_pos (by omega)]
      · rw [if_neg y, if_neg y]
    rw [e]
    exact ⟨σ, rfl, Tf.rfl, cf, cl⟩
/-- the found ones of the reference -/
def Rf (S : MS) (R : List Nat) : Prop := S.2 26 = nI R.length ∧ R.length ≤ 40 ∧ ∀ (i t : Nat), R[i]? = some t → S.1 18 i = nI t
theorem r_isBefore_eq {K : Nat → Bool} (kr : KR S dq K) (hd : ∀ t, dq t ≤ 99) {t x : Nat} (ht : t < 40) (hx : x < 40) (kt : K t = true) (kx : K x = true) : (ah fa dq t x → r_isBefore S (nI t) (nI x) (bI (fa = true)) = some 1) ∧ (¬ ah fa dq t x → r_isBefore S (nI t) (nI x) (bI (fa = true)) = some 0) := by
  have dt := hd t
  have dx := hd x
  unfold r_isBefore r_isBefore_31
  rw [rd_ok (by rw [len17.1]; exact ht) (by omega), bind_s, rd_ok (by rw [len17.1]; exact hx) (by omega), bind_s, kr t ht, kr x hx, if_pos kt, if_pos kx]
  unfold ah
  constructor
  · rintro (h | ⟨h1, h2⟩)
    · cases fa with
      | false =>
        rw [ba_f] at h
        rw [if_neg (fun y => by have := (sub_0 (by omega) (by omega)).mp y; omega), if_pos ((sub_le0 (by omega) (by omega)).mpr (by omega)), if_pos (by decide)]; rfl
      | true =>
        rw [ba_t] at h
        rw [if_neg (fun y => by have := (sub_0 (by omega) (by omega)).mp y; omega), if_neg (fun y => by have := (sub_le0 (by omega) (by omega)).mp y; omega), if_pos (by decide)]; rfl
    · rw [if_pos ((sub_0 (by omega) (by omega)).mpr h1), if_neg (nI_ge h2 (by omega))]; rfl
  · intro h
    by_cases z : dq t = dq x
    · rw [if_pos ((sub_0 (by omega) (by omega)).mpr z), if_pos (nI_le (Nat.le_of_not_lt (fun y => h (Or.inr ⟨z, y⟩))) (by omega))]; rfl
    · cases fa with
      | false =>
        rw [ba_f] at h
        rw [if_neg (fun y => z ((sub_0 (by omega) (by omega)).mp y)), if_neg (fun y => by have := (sub_le0 (by omega) (by omega)).mp y; omega), if_neg (by decide)]; rfl
      | true =>
        rw [ba_t] at h
        rw [if_neg (fun y => z ((sub_0 (by omega) (by omega)).mp y)), if_pos ((sub_le0 (by omega) (by omega)).mpr (by omega)), if_neg (by decide)]; rfl
/-- row 18 and field 26 alone -/
def R18 (S S' : MS) : Prop := (∀ j, j ≠ 18 → S'.1 j = S.1 j) ∧ ∀ k, k ≠ 26 → S'.2 k = S.2 k
theorem r_find_eq {K : Nat → Bool} {t p : Nat} {R : List Nat} (kr : KR S dq K) (hd : ∀ t, dq t ≤ 99) (rf : Rf S R) (hR : ∀ x ∈ R, x < 40 ∧ K x = true) (ht : t < 40) (kt : K t = true) (h39 : R.length < 40) (hp : p ≤ R.length) (c1 : ∀ i x, i < p → R[i]? = some x → ah fa dq x t) (c2 : ∀ i x, p ≤ i → R[i]? = some x → ah fa dq t x) : ∃ S', r_find S (nI t) (bI (fa = true)) = some S' ∧ Rf S' (lin R p t) ∧ R18 S S' := by
  have key : ∀ (m F : Nat) (T : MS), m < F → p + m ≤ R.length → R18 S T → T.2 26 = nI R.length → (∀ i, i < p + m → ∀ x, R[i]? = some x → T.1 18 i = nI x) → (∀ i, p + m < i → i ≤ R.length → ∀ x, R[i - 1]? = some x → T.1 18 i = nI x) → ∃ S', r_find_5 F (nI t) (bI (fa = true)) (nI (p + m)) T = some S' ∧ Rf S' (lin R p t) ∧ R18 S S' := by
    intro m
    induction m with
    | zero =>
      intro F T hF hm r18 t26 lo hi
      obtain ⟨F, rfl⟩ : ∃ F', F = F' + 1 := ⟨F - 1, by omega⟩
      rw [Nat.add_zero] at lo hi ⊢
      have fin : ∃ S', r_find_46 (nI t) (nI p) T = some S' ∧ Rf S' (lin R p t) ∧ R18 S S' := by
        unfold r_find_46
        rw [wr_ok (by rw [len17.2.1]; omega) (by omega), bind_s]
        refine ⟨_, rfl, ⟨?_, by rw [lin_len hp]; omega, fun i x hx => ?_⟩, fun j hj => ?_, fun k hk => ?_⟩
        · rw [pf_s, lin_len hp]
          show T.2 26 + 1 = _
          rw [t26, nI_1]
        · rw [pf_1]
          show up2 T.1 18 p (nI t) 18 i = nI x
          have il := (List.getElem?_eq_some_iff.mp hx).1
          rw [lin_len hp] at il
          rw [lin_get hp] at hx
          by_cases z : i = p
          · rw [if_neg (by omega), if_pos z] at hx
            cases hx
            rw [z, up2_s]
          · rw [up2_n (fun y => z y.2)]
            by_cases y : i < p
            · rw [if_pos y] at hx
              exact lo i y x hx
            · rw [if_neg y, if_neg z] at hx
              exact hi i (by omega) (by omega) x hx
        · rw [pf_1]
          show up2 T.1 18 p (nI t) j = _
          rw [up2_r hj]
          exact r18.1 j hj
        · rw [pf_n hk]
          exact r18.2 k hk
      show ∃ S', r_find_5 (F + 1) (nI t) (bI (fa = true)) (nI p) T = some S' ∧ _
      rw [r_find_5.eq_2]
      by_cases z : p = 0
      · rw [if_pos (by rw [z]; decide)]; exact fin
      · obtain ⟨x, hx⟩ : ∃ x, R[p - 1]? = some x := ⟨_, List.getElem?_eq_getElem (by omega)⟩
        have hxx := hR x (List.mem_of_getElem? hx)
        have krT : KR T dq K := fun y hy => by rw [r18.1 17 (by decide)]; exact kr y hy
        rw [if_neg (show ¬ nI p ≤ 0 from nI_ge (show 0 < p by omega) (by omega)), show nI p - 1 = nI (p - 1) by rw [show (1 : Int32) = nI 1 from rfl, pk_sub (by omega)], rd_ok (by rw [len17.2.1]; omega) (by omega), bind_s, lo (p - 1) (by omega) x hx, (r_isBefore_eq krT hd ht hxx.1 kt hxx.2).2 (fun y => ah_irr (ah_tr y (c1 (p - 1) x (by omega) hx))), bind_s, if_pos rfl]
        exact fin
    | succ m ih =>
      intro F T hF hm r18 t26 lo hi
      obtain ⟨F, rfl⟩ : ∃ F', F = F' + 1 := ⟨F - 1, by omega⟩
      obtain ⟨x, hx⟩ : ∃ x, R[p + m]? = some x := ⟨_, List.getElem?_eq_getElem (by omega)⟩
      have hxx := hR x (List.mem_of_getElem? hx)
      have krT : KR T dq K := fun y hy => by rw [r18.1 17 (by decide)]; exact kr y hy
      obtain ⟨S', k1, k2, k3⟩ := ih F (up2 T.1 18 (p + m + 1) (nI x), T.2) (by omega) (by omega) ⟨fun j hj => by show up2 T.1 18 _ _ j = _; rw [up2_r hj]; exact r18.1 j hj, r18.2⟩ t26 (fun i h y hy => by
        show up2 T.1 18 (p + m + 1) (nI x) 18 i = _
        rw [up2_n (fun q => by omega)]
        exact lo i (by omega) y hy) (fun i h1 h2 y hy => by
        show up2 T.1 18 (p + m + 1) (nI x) 18 i = _
        by_cases z : i = p + m + 1
        · rw [z] at hy ⊢
          rw [show p + m + 1 - 1 = p + m by omega, hx] at hy
          cases hy
          rw [up2_s]
        · rw [up2_n (fun q => z q.2)]
          exact hi i (by omega) h2 y hy)
      refine ⟨S', ?_, k2, k3⟩
      rw [show p + (m + 1) = p + m + 1 by omega, r_find_5.eq_2, if_neg (show ¬ nI (p + m + 1) ≤ 0 from nI_ge (show 0 < p + m + 1 by omega) (by omega)), show nI (p + m + 1) - 1 = nI (p + m) by rw [show (1 : Int32) = nI 1 from rfl, pk_sub (by omega)]; rfl, rd_ok (by rw [len17.2.1]; omega) (by omega), bind_s, lo (p + m) (by omega) x hx, (r_isBefore_eq krT hd ht hxx.1 kt hxx.2).1 (c2 (p + m) x (by omega) hx), bind_s, if_neg (by decide), bind_s, wr_ok (by rw [len17.2.1]; omega) (by omega), bind_s, nI_dec (by omega), show p + m + 1 - 1 = p + m by omega]
      exact k1
  unfold r_find
  rw [rf.1]
  have := key (R.length - p) FU S (FU_gt (by omega)) (by omega) ⟨fun _ _ => rfl, fun _ _ => rfl⟩ rf.1 (fun i h x hx => rf.2.2 i x hx) (fun i h1 h2 => by omega)
  rw [show p + (R.length - p) = R.length by omega] at this
  exact this
end TAKE
