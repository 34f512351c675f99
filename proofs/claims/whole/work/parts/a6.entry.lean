section ENTRY
variable {σ0 σ : Hp} {V : Vt} {g : Gh} {E : Nat} {L : List Nat} {dq : Nat → Nat} {fa stays : Bool} {most lim : Nat}
/-- measured, paid, spared, found, waiting -/
abbrev Xs : Type := (Nat → Bool) × Nat × Nat × List Nat × List Qi
/-- the limit -/
def lmt (dq : Nat → Nat) (stays : Bool) (most lim : Nat) (R : List Nat) : Option Nat := if stays = true then some lim else if most ≤ R.length then some (dq ((R[most - 1]?).getD 0)) else none
def spd (V : Vt) (dq : Nat → Nat) (fa : Bool) (lm : Option Nat) (p : Nat) (e : Ent) : Prop := ∃ c l, (V.P p).ce = some c ∧ lm = some l ∧ (if fa = true then dq c + far V c e.1 + e.2.1 < l else l + e.2.1 < dq c - far V c e.1 + (far V c e.1 - dq c))
def byd (fa : Bool) (lm : Option Nat) (b : Nat) : Prop := ∃ l, lm = some l ∧ ba fa l b
def bdn (dq : Nat → Nat) (fa : Bool) (e : Ent) : Nat := if fa = true then dq e.1 + e.2.1 else dq e.1 - e.2.1
def Cut (fa : Bool) (dq : Nat → Nat) (R : List Nat) (t c : Nat) : Prop := c ≤ R.length ∧ (∀ i x, i < c → R[i]? = some x → ah fa dq x t) ∧ ∀ i x, c ≤ i → R[i]? = some x → ah fa dq t x
/-- one entry of a page that is gone into -/
def Stq (V : Vt) (dq : Nat → Nat) (fa stays : Bool) (most lim p : Nat) (e : Ent) (X X' : Xs) : Prop :=
  (spd V dq fa (lmt dq stays most lim X.2.2.2.1) p e ∧ X' = (X.1, X.2.1, X.2.2.1 + 1, X.2.2.2.1, X.2.2.2.2)) ∨
  (¬ spd V dq fa (lmt dq stays most lim X.2.2.2.1) p e ∧
    (((V.P p).lf = true ∧ (stays = true → dq e.1 ≤ lim) ∧ ∃ c, Cut fa dq X.2.2.2.1 e.1 c ∧ X' = (kup X.1 e.1, X.2.1 + (if X.1 e.1 = true then 0 else 1), X.2.2.1, lin X.2.2.2.1 c e.1, X.2.2.2.2)) ∨
     ((V.P p).lf = true ∧ (stays = true ∧ lim < dq e.1) ∧ X' = (kup X.1 e.1, X.2.1 + (if X.1 e.1 = true then 0 else 1), X.2.2.1, X.2.2.2.1, X.2.2.2.2)) ∨
     ((V.P p).lf = false ∧ ¬ byd fa (lmt dq stays most lim X.2.2.2.1) (bdn dq fa e) ∧ X' = (kup X.1 e.1, X.2.1 + (if X.1 e.1 = true then 0 else 1), X.2.2.1, X.2.2.2.1, X.2.2.2.2 ++ [(e.2.2, bdn dq fa e, nI (dq e.1))])) ∨
     ((V.P p).lf = false ∧ byd fa (lmt dq stays most lim X.2.2.2.1) (bdn dq fa e) ∧ X' = (kup X.1 e.1, X.2.1 + (if X.1 e.1 = true then 0 else 1), X.2.2.1, X.2.2.2.1, X.2.2.2.2))))
/-- the class amid a search -/
def CX (σ0 : Hp) (V : Vt) (E : Nat) (L : List Nat) (dq : Nat → Nat) (fa stays : Bool) (most lim lk : Nat) (T : List Nat) (σ : Hp) (X : Xs) : Prop := (St σ 3 E L V ∧ Tv σ V ∧ (∃ r q, Mo σ r q) ∧ Ck σ ∧ Sf L σ0 σ ∧ Qcl σ V dq) ∧ (KV σ dq X.1 ∧ σ.fi 614 29 = nI X.2.1 ∧ σ.fi 615 29 = nI X.2.2.1 ∧ σ.fi 616 29 = nI lk) ∧ (Cf σ fa dq (X.2.2.2.1.take most) ∧ Clm σ fa dq (X.2.2.2.1.take most) stays most lim) ∧ WV σ L V.U fa X.2.2.2.2 T
theorem Cf.cg {σ' : Hp} {C : List Nat} (h : Cf σ fa dq C) (h1 : σ'.fi 613 29 = σ.fi 613 29) (h2 : σ'.ar 31 = σ.ar 31) (h3 : σ'.ar 32 = σ.ar 32) : Cf σ' fa dq C := by unfold Cf; rw [h1, h2, h3]; exact h
theorem Clm.cg {σ' : Hp} {C : List Nat} (h : Clm σ fa dq C stays most lim) (h1 : ∀ i, 605 ≤ i → i ≤ 608 → σ'.fi i 29 = σ.fi i 29) : Clm σ' fa dq C stays most lim := by
  unfold Clm
  rw [h1 605 (by omega) (by omega), h1 606 (by omega) (by omega), h1 607 (by omega) (by omega), h1 608 (by omega) (by omega)]
  exact h
theorem WV.cg {σ' : Hp} {Q : List Qi} {T : List Nat} {U : Nat} (h : WV σ L U fa Q T) (h1 : σ'.fi 609 29 = σ.fi 609 29) (h2 : ∀ i a, 311 ≤ i → i ≤ 313 → a ∈ L → σ'.fi i a = σ.fi i a) : WV σ' L U fa Q T := by
  obtain ⟨a1, a2, a3⟩ := h
  refine ⟨h1.trans a1, fun p a hp ha => (h2 311 a (by omega) (by omega) (List.mem_of_getElem? ha)).trans (a2 p a hp ha), fun i x a hx ha => ?_⟩
  rw [h2 312 a (by omega) (by omega) (List.mem_of_getElem? ha), h2 313 a (by omega) (by omega) (List.mem_of_getElem? ha)]
  exact a3 i x a hx ha
theorem lmt_le (hd : ∀ t, dq t ≤ 99) {R : List Nat} {l : Nat} (h : lmt dq stays most lim R = some l) (hl : lim ≤ 99) : l ≤ 99 := by
  unfold lmt at h
  split at h
  · cases h; exact hl
  · split at h
    · cases h; exact hd _
    · cases h
theorem c_isBeyond {R : List Nat} (ck : Ck σ) (cf : Cf σ fa dq (R.take most)) (cl : Clm σ fa dq (R.take most) stays most lim) (hm : 1 ≤ most ∧ most ≤ 40) (hs : stays = true → fa = false) (v : Int32) : kX6_isBeyond σ 29 v = match lmt dq stays most lim R with | none => some 0 | some l => if v ≤ sg fa l then some 0 else some 1 := by
  obtain ⟨l1, l2, l3, l4, l5⟩ := cl
  have c40 := cf.2.1
  unfold kX6_isBeyond kX6_isBeyond_18 lmt
  rw [ck.i, bind_s, l2, bI_0']
  cases stays with
  | true =>
    have := hs rfl
    subst this
    rw [if_neg (by decide), if_pos rfl, ck.i, bind_s, l4 rfl]
    rfl
  | false =>
    rw [if_pos (by decide), if_neg (by decide), ck.i, bind_s, ck.i, bind_s, cf.1, l3]
    have lt := List.length_take (l := R) (i := most)
    by_cases z : most ≤ R.length
    · obtain ⟨t, ht⟩ : ∃ t, R[most - 1]? = some t := ⟨_, List.getElem?_eq_getElem (by omega)⟩
      rw [if_neg (nI_nlt (by omega) (by omega)), if_pos z, ck.i, bind_s, l5 rfl t (by omega) (by rw [List.getElem?_take, if_pos (by omega)]; exact ht), ht]
      rfl
    · rw [if_pos (nI_lt (by omega) (by omega)), if_neg z]
      rfl
theorem c_spared {X : Xs} {a k p : Nat} {e : Ent} (st : St σ 3 E L V) (tv : Tv σ V) (ck : Ck σ) (kv : KV σ dq X.1) (cf : Cf σ fa dq (X.2.2.2.1.take most)) (cl : Clm σ fa dq (X.2.2.2.1.take most) stays most lim) (hd : ∀ t, dq t ≤ 99) (hv : Vw V) (w : Wf V g V.U) (hm : 1 ≤ most ∧ most ≤ 40) (hs : stays = true → fa = false) (hl : lim ≤ 99) (hp : p < V.U) (ha : L[p]? = some a) (he : (V.P p).es[k]? = some e) {c : Nat} (hc : (V.P p).ce = some c) (hK : X.1 c = true) : ∃ v, kX6_leastRank σ 29 a (nI k) = some v ∧ ((spd V dq fa (lmt dq stays most lim X.2.2.2.1) p e → kX6_isBeyond σ 29 v = some 1) ∧ (¬ spd V dq fa (lmt dq stays most lim X.2.2.2.1) p e → kX6_isBeyond σ 29 v = some 0)) := by
  have pc := st.2.2.2.2.2.2 p a hp ha
  have hsc := w.ce hp hc
  have c40 := hsc.1
  have hse := ((w.2.1 p hp).2.1 e (List.mem_of_getElem? he)).1
  have r9 := (w.es hp e (List.mem_of_getElem? he)).2
  have f99 := far_le hv c e.1
  have d99 := hd c
  have rc : ald σ 1 30 (o2i (some c)) = some (nI (dq c)) := by
    show ald σ 1 30 (nI c) = _
    rw [ald_ok ck.1.2.1 (by rw [ck.2.1.1]; exact c40) (by omega), kv c c40, if_pos hK]
  have gof : kX1_of σ 19 (o2i (some c)) (nI e.1) = some (nI (far V c e.1)) := tv.of hsc hse
  have spe : spd V dq fa (lmt dq stays most lim X.2.2.2.1) p e ↔ ∃ l, lmt dq stays most lim X.2.2.2.1 = some l ∧ (if fa = true then dq c + far V c e.1 + e.2.1 < l else l + e.2.1 < dq c - far V c e.1 + (far V c e.1 - dq c)) := by
    unfold spd
    constructor
    · rintro ⟨c', l, h1, h2, h3⟩
      rw [hc] at h1
      cases h1
      exact ⟨l, h2, h3⟩
    · rintro ⟨l, h2, h3⟩
      exact ⟨c, l, hc, h2, h3⟩
  rw [spe]
  have key : ∃ v, kX6_leastRank σ 29 a (nI k) = some v ∧ ∀ l, l ≤ 99 → (¬ v ≤ sg fa l ↔ (if fa = true then dq c + far V c e.1 + e.2.1 < l else l + e.2.1 < dq c - far V c e.1 + (far V c e.1 - dq c))) := by
    unfold kX6_leastRank kX6_leastRank_66
    rw [ck.k, bind_s, pc.ce, hc, bind_s, rc, bind_s, ck.f, bind_s, bind_s, pc.1.f1, bind_s, pc.t he, bind_s, tv.kf, gof, bind_s, ck.i, bind_s, cl.1, bI_0']
    simp only [pc.1.f2, pc.r he, bind_s]
    cases fa with
    | false =>
      rw [if_pos (by decide)]
      by_cases z : dq c ≤ far V c e.1
      · rw [if_pos (nI_le z (by omega)), pk_sub z]
        refine ⟨_, rfl, fun l hl => ?_⟩
        rw [if_neg (by decide), show sg false l = nI l from rfl, le_sub (by omega) (by omega) (by omega)]
        omega
      · rw [if_neg (nI_ge (by omega) (by omega)), pk_sub (by omega)]
        refine ⟨_, rfl, fun l hl => ?_⟩
        rw [if_neg (by decide), show sg false l = nI l from rfl, le_sub (by omega) (by omega) (by omega)]
        omega
    | true =>
      rw [if_neg (by decide), nI_add, nI_add]
      refine ⟨_, rfl, fun l hl => ?_⟩
      rw [if_pos rfl, show sg true l = -nI l from rfl, neg_le (by omega) (by omega)]
      omega
  obtain ⟨v, v1, v2⟩ := key
  refine ⟨v, v1, fun ⟨l, h1, h2⟩ => ?_, fun h => ?_⟩
  · have l99 := lmt_le hd h1 hl
    rw [c_isBeyond ck cf cl hm hs, h1]
    show (if v ≤ sg fa l then some 0 else some 1) = some (1 : Int32)
    rw [if_neg ((v2 l l99).mpr h2)]
  · rw [c_isBeyond ck cf cl hm hs]
    cases q : lmt dq stays most lim X.2.2.2.1 with
    | none => rfl
    | some l =>
      have l99 := lmt_le hd q hl
      show (if v ≤ sg fa l then some 0 else some 1) = some (0 : Int32)
      by_cases z : v ≤ sg fa l
      · rw [if_pos z]
      · exact absurd ⟨l, q, (v2 l l99).mp z⟩ h
theorem c_beyond {R : List Nat} (ck : Ck σ) (cf : Cf σ fa dq (R.take most)) (cl : Clm σ fa dq (R.take most) stays most lim) (hd : ∀ t, dq t ≤ 99) (hm : 1 ≤ most ∧ most ≤ 40) (hs : stays = true → fa = false) (hl : lim ≤ 99) {b : Nat} (hb : b < 2 ^ 31) : (byd fa (lmt dq stays most lim R) b → kX6_isBeyond σ 29 (sg fa b) = some 1) ∧ (¬ byd fa (lmt dq stays most lim R) b → kX6_isBeyond σ 29 (sg fa b) = some 0) := by
  rw [c_isBeyond ck cf cl hm hs]
  unfold byd
  cases q : lmt dq stays most lim R with
  | none => exact ⟨fun ⟨l, h, _⟩ => (by cases h), fun _ => rfl⟩
  | some l =>
    have l99 := lmt_le hd q hl
    have e := sg_le (f := fa) hb (show l < 2 ^ 31 by omega)
    constructor
    · rintro ⟨l', h1, h2⟩
      cases h1
      show (if sg fa b ≤ sg fa l then some 0 else some 1) = some (1 : Int32)
      rw [if_neg (fun z => e.mp z h2)]
    · intro h
      show (if sg fa b ≤ sg fa l then some 0 else some 1) = some (0 : Int32)
      rw [if_pos (e.mpr (fun z => h ⟨l, rfl, z⟩))]
end ENTRY
