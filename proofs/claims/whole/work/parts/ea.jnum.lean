section JNUM
variable {σ σ' σ1 σ2 : Hp} {S S' S1 : MS} {n : Nat} {f : Nat → Int32}
/-- what a reader of the reference leaves: only place a of row 28, only the fields 45 to 47 -/
def Rw (a : Nat) (S S' : MS) : Prop := (∀ j, j ≠ 28 → S'.1 j = S.1 j) ∧ (∀ i, i ≠ a → S'.1 28 i = S.1 28 i) ∧ ∀ k, k ≠ 45 → k ≠ 46 → k ≠ 47 → S'.2 k = S.2 k
theorem Rw.rfl {a : Nat} : Rw a S S := ⟨fun _ _ => Eq.refl _, fun _ _ => Eq.refl _, fun _ _ _ _ => Eq.refl _⟩
theorem Rw.tr {a : Nat} (h : Rw a S S1) (k : Rw a S1 S') : Rw a S S' := ⟨fun j q => (k.1 j q).trans (h.1 j q), fun i q => (k.2.1 i q).trans (h.2.1 i q), fun i q1 q2 q3 => (k.2.2 i q1 q2 q3).trans (h.2.2 i q1 q2 q3)⟩
theorem Rw.p {a k : Nat} {v : Int32} (hk : k = 45 ∨ k = 46 ∨ k = 47) : Rw a S (pf S k v) := ⟨fun j _ => by rw [pf_1], fun i _ => by rw [pf_1], fun i q1 q2 q3 => pf_n (by omega)⟩
theorem Rw.w {a : Nat} {v : Int32} : Rw a S (up2 S.1 28 a v, S.2) := ⟨fun j q => up2_r q, fun i q => up2_i q, fun _ _ _ _ => Eq.refl _⟩
theorem Rw.sh {a : Nat} (h : Rw a S S') (k : Rsh f n S) : Rsh f n S' := ⟨k.1, by rw [h.2.2 44 (by omega) (by omega) (by omega)]; exact k.2.1, fun i hi => by rw [h.1 26 (by omega)]; exact k.2.2.1 i hi, fun i hi => by rw [h.1 27 (by omega)]; exact k.2.2.2 i hi⟩
theorem nv_snoc : ∀ (m q : Nat) (a : Int32), nv f (m + 1) q a = ((nv f m q a * 10) + f (q + m)) - 48
  | 0, q, a => rfl
  | m + 1, q, a => by
    show nv f (m + 1) (q + 1) _ = ((nv f m (q + 1) _ * 10) + f (q + (m + 1))) - 48
    rw [nv_snoc m (q + 1), show q + 1 + m = q + (m + 1) by omega]
theorem rd_up {A : Nat → Nat → Int32} {B : Nat → Int32} {x : Nat} {v : Int32} (hx : x < 300) : rd ((up2 A 28 x v, B) : MS) 28 (nI x) = some v := by
  rw [rd_ok (show x < m_len 28 by rw [show m_len 28 = 300 from rfl]; omega) (by omega)]
  exact congrArg some up2_s
theorem r_isWrong_eq : r_isWrong S = some (0, pf S 45 (S.2 47)) := rfl
theorem r_num6 {x q : Nat} (hx : x < 300) : ∀ (m F p : Nat) (S : MS) (a0 : Int32), m < F → p + m = n → q ≤ p → Rsh f n S → S.2 46 = nI p → S.2 47 = nI q → (p ≤ q + 3 → a0 = nv f (p - q) q 0) → ∃ r S', r_readNumber_6 F (nI x) a0 S = some (r, S') ∧ Rw x S S' ∧ S'.2 46 = nI (rn f n isFg m p) ∧ ((r = 1 ∧ (q < rn f n isFg m p ∧ rn f n isFg m p ≤ q + 3) ∧ S'.1 28 x = nv f (rn f n isFg m p - q) q 0 ∧ S'.2 45 = S.2 45) ∨ (r = 0 ∧ ¬ (q < rn f n isFg m p ∧ rn f n isFg m p ≤ q + 3) ∧ S'.2 45 = nI q))
  | m, 0, _, _, _, h, _, _, _, _, _, _ => absurd h (Nat.not_lt_zero m)
  | m, F + 1, p, S, a0, hF, hp, hq, h, e, e7, ha => by
    have n3 := h.1
    have fin : ¬ (p < n ∧ isFg (f p) = true) → ∃ r S', r_readNumber_6 (F + 1) (nI x) a0 S = some (r, S') ∧ Rw x S S' ∧ S'.2 46 = nI p ∧ ((r = 1 ∧ (q < p ∧ p ≤ q + 3) ∧ S'.1 28 x = nv f (p - q) q 0 ∧ S'.2 45 = S.2 45) ∨ (r = 0 ∧ ¬ (q < p ∧ p ≤ q + 3) ∧ S'.2 45 = nI q)) := fun z => by
      have b0 : bI (isFg (if p < n then f p else -1) = true) = 0 := by
        unfold bI
        rw [if_neg]
        by_cases y : p < n
        · rw [if_pos y]; exact fun w => z ⟨y, w⟩
        · rw [if_neg y]; decide
      unfold r_readNumber_6 r_readNumber_94
      simp only [e, e7, r_byteAt_eq h (show p ≤ 300 by omega), bind_s, r_isFigure_eq, b0, if_true, wr_ok (show x < m_len 28 by rw [show m_len 28 = 300 from rfl]; omega) (show x < 2 ^ 31 by omega), r_isIn_b, pk_sub hq]
      have i3 : (1 ≤ nI (p - q) ∧ nI (p - q) ≤ 3) ↔ (q < p ∧ p ≤ q + 3) := by
        rw [show (1 : Int32) = nI 1 from rfl, show (3 : Int32) = nI 3 from rfl, nI_leI (by omega) (by omega), nI_leI (by omega) (by omega)]
        omega
      by_cases g : q < p ∧ p ≤ q + 3
      · have b1 : bI (1 ≤ nI (p - q) ∧ nI (p - q) ≤ 3) = 1 := if_pos (i3.mpr g)
        rw [b1, if_neg (show ¬ (1 : Int32) = 0 by decide), zb_1, bind_s]
        exact ⟨1, _, rfl, Rw.w, e, Or.inl ⟨rfl, g, up2_s.trans (ha g.2), rfl⟩⟩
      · have b1 : bI (1 ≤ nI (p - q) ∧ nI (p - q) ≤ 3) = 0 := if_neg (fun w => g (i3.mp w))
        rw [b1, if_pos rfl, r_isWrong_eq, bd2_s, if_pos rfl, zb_0, bind_s]
        refine ⟨0, _, rfl, Rw.w.tr (Rw.p (Or.inl rfl)), ?_, Or.inr ⟨rfl, g, ?_⟩⟩
        · rw [pf_n (by omega)]; exact e
        · rw [pf_s]; exact e7
    cases m with
    | zero => exact fin (by omega)
    | succ m =>
      by_cases z : p < n ∧ isFg (f p) = true
      · have un : rn f n isFg (m + 1) p = rn f n isFg m (p + 1) := by
          show (if p < n ∧ isFg (f p) = true then _ else _) = _
          rw [if_pos z]
        rw [un]
        have b1 : bI (isFg (if p < n then f p else -1) = true) = 1 := by
          unfold bI
          rw [if_pos]
          rw [if_pos z.1]; exact z.2
        unfold r_readNumber_6 r_readNumber_50
        simp only [e, e7, r_byteAt_eq h (show p ≤ 300 by omega), bind_s, r_isFigure_eq, b1, pk_sub hq, nI_1]
        rw [if_neg (show ¬ (1 : Int32) = 0 by decide)]
        have h1 : Rsh f n (pf S 46 (nI (p + 1))) := h.pf (by omega)
        have go : ∀ a1 : Int32, (p + 1 ≤ q + 3 → a1 = nv f (p + 1 - q) q 0) → ∃ r S', r_readNumber_6 F (nI x) a1 (pf S 46 (nI (p + 1))) = some (r, S') ∧ Rw x S S' ∧ S'.2 46 = nI (rn f n isFg m (p + 1)) ∧ ((r = 1 ∧ (q < rn f n isFg m (p + 1) ∧ rn f n isFg m (p + 1) ≤ q + 3) ∧ S'.1 28 x = nv f (rn f n isFg m (p + 1) - q) q 0 ∧ S'.2 45 = S.2 45) ∨ (r = 0 ∧ ¬ (q < rn f n isFg m (p + 1) ∧ rn f n isFg m (p + 1) ≤ q + 3) ∧ S'.2 45 = nI q)) := fun a1 ha1 => by
          obtain ⟨r, S', k1, k2, k3, k4⟩ := r_num6 hx m F (p + 1) (pf S 46 (nI (p + 1))) a1 (by omega) (by omega) (by omega) h1 pf_s (by rw [pf_n (by omega)]; exact e7) ha1
          rw [pf_n (show 45 ≠ 46 by omega)] at k4
          exact ⟨r, S', k1, (Rw.p (Or.inr (Or.inl rfl))).tr k2, k3, k4⟩
        by_cases y : 3 ≤ p - q
        · rw [if_pos (by rw [show (3 : Int32) = nI 3 from rfl, nI_leI (by omega) (by omega)]; exact y)]
          exact go a0 (fun w => by omega)
        · rw [if_neg (by rw [show (3 : Int32) = nI 3 from rfl, nI_leI (by omega) (by omega)]; exact y), if_pos z.1]
          refine go _ (fun w => ?_)
          rw [show p + 1 - q = p - q + 1 by omega, nv_snoc, ← ha (by omega), show q + (p - q) = p by omega, Int32.mul_comm]
      · have un : rn f n isFg (m + 1) p = p := by
          show (if p < n ∧ isFg (f p) = true then _ else _) = _
          rw [if_neg z]
        rw [un]
        exact fin z
/-- the reference reads a number -/
theorem r_readNumber_eq {x p q t : Nat} (hx : x < 300) (h : Rsh f n S) (hp : p ≤ n) (e : S.2 46 = nI p) (hq : q = rn f n isBl (n - p) p) (ht : t = rn f n isFg (n - q) q) : ∃ r S', r_readNumber S (nI x) = some (r, S') ∧ Rw x S S' ∧ S'.2 46 = nI t ∧ ((r = 1 ∧ (q < t ∧ t ≤ q + 3) ∧ S'.1 28 x = nv f (t - q) q 0 ∧ S'.2 45 = S.2 45) ∨ (r = 0 ∧ ¬ (q < t ∧ t ≤ q + 3) ∧ S'.2 45 = nI q)) := by
  have n3 := h.1
  have ql := rn_le (n := n) (f := f) (P := isBl) (n - p) p (by omega)
  rw [← hq] at ql
  obtain ⟨S1, a, b, c, d, g⟩ := r_skip_eq h hp e
  rw [← hq] at c d
  have w1 : Rw x S S1 := ⟨fun j _ => by rw [b], fun i _ => by rw [b], fun k q1 q2 q3 => g k q2 q3⟩
  obtain ⟨r, S', k1, k2, k3, k4⟩ := r_num6 (f := f) hx (n - q) FU q S1 0 (FU_gt (by omega)) (by omega) (Nat.le_refl _) (w1.sh h) c d (fun _ => by rw [Nat.sub_self]; rfl)
  rw [← ht] at k3 k4
  rw [g 45 (by omega) (by omega)] at k4
  unfold r_readNumber
  rw [a, bind_s]
  exact ⟨r, S', k1, w1.tr k2, k3, k4⟩
/-- only the fields 6 to 9 of the commands' object -/
def D69 (σ σ' : Hp) : Prop := Dn (fun x => x = 53) σ σ' ∧ ∀ i, i ≠ 6 → i ≠ 7 → i ≠ 8 → i ≠ 9 → σ'.fi i 53 = σ.fi i 53
theorem D789.d (h : D789 σ σ') : D69 σ σ' := ⟨h.1, fun i _ a b c => h.2 i a b c⟩
theorem D69.tr (h : D69 σ σ1) (k : D69 σ1 σ') : D69 σ σ' := ⟨h.1.tr k.1, fun i a b c d => (k.2 i a b c d).trans (h.2 i a b c d)⟩
theorem D69.x {v : Int32} : D69 σ (sfi σ 6 53 v) := ⟨Dn.xi rfl, fun j a b c d => by rw [fi_sfi, if_neg (fun q => a q.1)]⟩
theorem Kr.d (h : Kr f n σ) (k : D69 σ σ') : Kr f n σ' := ⟨⟨by rw [k.1.1.1]; exact h.1.1, by rw [k.1.1.1]; exact h.1.2.1, by rw [k.1.1.2.1]; exact h.1.2.2.1, by rw [k.1.1.2.2.1]; exact h.1.2.2.2⟩, h.2.1, by rw [k.2 1 (by omega) (by omega) (by omega) (by omega)]; exact h.2.2.1, fun i hi => by rw [(k.1.2 54 (by omega)).2]; exact h.2.2.2 i hi⟩
/-- both stand at p, nothing wrong yet -/
def Atp (f : Nat → Int32) (n : Nat) (σ : Hp) (S : MS) (p : Nat) : Prop := Kr f n σ ∧ Rsh f n S ∧ p ≤ n ∧ σ.fi 9 53 = nI p ∧ S.2 46 = nI p ∧ σ.fi 6 53 = -1 ∧ S.2 45 = -1
/-- something was wrong, at the same place -/
def Wg (σ : Hp) (S : MS) : Prop := σ.fi 6 53 = S.2 45 ∧ S.2 45 ≠ -1
/-- both read a token -/
def Tkn (f : Nat → Int32) (n : Nat) (σ : Hp) (S : MS) (p x : Nat) (v : Int32) (σ' : Hp) (r : Int32) (S' : MS) : Prop := D69 σ σ' ∧ Rw x S S' ∧ ((r = 1 ∧ v = S'.1 28 x ∧ ∃ t, p < t ∧ Atp f n σ' S' t) ∨ (r = 0 ∧ Wg σ' S'))
theorem j_number {x p : Nat} (hx : x < 300) (h : Atp f n σ S p) : ∃ v σ' r S', kX0_readNumber σ 53 = some (v, σ') ∧ r_readNumber S (nI x) = some (r, S') ∧ Tkn f n σ S p x v σ' r S' := by
  obtain ⟨h1, h2, hp, e9, e46, e6, e45⟩ := h
  have n3 := h2.1
  have ql := rn_le (n := n) (f := f) (P := isBl) (n - p) p (by omega)
  have tl := rn_le (n := n) (f := f) (P := isFg) (n - rn f n isBl (n - p) p) (rn f n isBl (n - p) p) (by omega)
  obtain ⟨v, σ1, a1, a2, a3, a4⟩ := c_readNumber h1 e6 hp e9 rfl rfl
  obtain ⟨r, S', b1, b2, b3, b4⟩ := r_readNumber_eq hx h2 hp e46 rfl rfl
  rcases b4 with ⟨rfl, g, b5, b6⟩ | ⟨rfl, g, b5⟩
  · rw [if_pos g] at a1
    refine ⟨v, _, 1, S', a1, b1, a2.d.tr D69.x, b2, Or.inl ⟨rfl, by rw [b5]; exact (a4 g).1, _, by omega, h1.d (a2.d.tr D69.x), b2.sh h2, tl.2, ?_, b3, ?_, by rw [b6]; exact e45⟩⟩
    · rw [fi_sfi, if_neg (by omega)]; exact (a4 g).2
    · rw [fi_sfi, if_pos ⟨rfl, rfl⟩]
  · rw [if_neg g] at a1
    refine ⟨v, _, 0, S', a1, b1, a2.d.tr D69.x, b2, Or.inr ⟨rfl, ?_, ?_⟩⟩
    · rw [fi_sfi, if_pos ⟨rfl, rfl⟩, b5]
    · rw [b5]; exact fun w => (nI_m1 (by omega)).mp w
end JNUM
