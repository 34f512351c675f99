-- the reference's row 0
def r0 (S : MS) (f : Nat → Int32) : MS := (fun j => if j = 0 then f else S.1 j, S.2)
theorem r0_0 {S : MS} {f : Nat → Int32} : (r0 S f).1 0 = f := by
  show (if (0 : Nat) = 0 then f else S.1 0) = f
  exact if_pos rfl
theorem r0_j {S : MS} {f : Nat → Int32} {j : Nat} (h : j ≠ 0) : (r0 S f).1 j = S.1 j := if_neg h
theorem r0_f {S : MS} {f : Nat → Int32} : (r0 S f).2 = S.2 := nr rfl
theorem r0_r0 {S : MS} {f g : Nat → Int32} : r0 (r0 S f) g = r0 S g := by
  unfold r0
  congr 1
  funext j
  by_cases h : j = 0
  · simp [h]
  · simp [h]
theorem r0_self {S : MS} : r0 S (S.1 0) = S := by
  unfold r0
  have : (fun j => if j = 0 then S.1 0 else S.1 j) = S.1 := by
    funext j
    by_cases h : j = 0
    · simp [h]
    · simp [h]
  rw [this]
theorem wr_r0 {S : MS} {i : Nat} {v : Int32} (h : i < 495854) : wr S 0 (nI i) v = some (r0 S (upd (S.1 0) i v)) := by
  rw [wr_ok (show i < m_len 0 by rw [len0]; exact h) (by omega)]
  congr 1
  unfold r0
  congr 1
  funext a b
  unfold up2 upd
  by_cases h : a = 0
  · subst h; simp
  · simp [h]
theorem rd_r0 {S : MS} {i : Nat} (h : i < 495854) : rd S 0 (nI i) = some (S.1 0 i) := rd_ok (by rw [len0]; exact h) (by omega)
section RPs
variable {S : MS} {q k w j : Nat} {v : Int32}
theorem r_at_eq (hq : q < 784) (hw : w < 30) : r_at S (nI q) (nI w) = some (S.1 0 (94 + 30 * q + w)) := by
  unfold r_at
  rw [show (94 : Int32) = nI 94 from rfl, show (30 : Int32) = nI 30 from rfl, pk_mul, nI_add, nI_add, rd_r0 (by omega), bind_s]
theorem r_let_eq (hq : q < 784) (hw : w < 30) : r_let S (nI q) (nI w) v = some (r0 S (upd (S.1 0) (94 + 30 * q + w) v)) := by
  unfold r_let
  rw [show (94 : Int32) = nI 94 from rfl, show (30 : Int32) = nI 30 from rfl, pk_mul, nI_add, nI_add, wr_r0 (by omega), bind_s]
theorem r_countOf_eq (hq : q < 784) : r_countOf S (nI q) = some (S.1 0 (94 + 30 * q)) := by
  unfold r_countOf
  rw [show (0 : Int32) = nI 0 from rfl, r_at_eq hq (by omega), bind_s]
  rfl
theorem r_entryOf_eq (hq : q < 784) (hk : k < 7) (hj : j < 4) : r_entryOf S (nI q) (nI k) (nI j) = some (S.1 0 (94 + 30 * q + 2 + 4 * k + j)) := by
  unfold r_entryOf
  rw [show (2 : Int32) = nI 2 from rfl, show (4 : Int32) = nI 4 from rfl, pk_mul, nI_add, nI_add, r_at_eq hq (by omega), bind_s, show 94 + 30 * q + (2 + 4 * k + j) = 94 + 30 * q + 2 + 4 * k + j by omega]
theorem r_letEntry_eq (hq : q < 784) (hk : k < 7) (hj : j < 4) : r_letEntry S (nI q) (nI k) (nI j) v = some (r0 S (upd (S.1 0) (94 + 30 * q + 2 + 4 * k + j) v)) := by
  unfold r_letEntry
  rw [show (2 : Int32) = nI 2 from rfl, show (4 : Int32) = nI 4 from rfl, pk_mul, nI_add, nI_add, r_let_eq hq (by omega), bind_s, show 94 + 30 * q + (2 + 4 * k + j) = 94 + 30 * q + 2 + 4 * k + j by omega]
/-- an entry's four cells -/
def le4 (f : Nat → Int32) (b k : Nat) (t r w v : Int32) : Nat → Int32 := upd (upd (upd (upd f (b + 2 + 4 * k + 0) t) (b + 2 + 4 * k + 1) r) (b + 2 + 4 * k + 2) w) (b + 2 + 4 * k + 3) v
theorem r_layEntry_eq {t r w v : Int32} (hq : q < 784) (hk : k < 7) : r_layEntry S (nI q) (nI k) t r w v = some (r0 S (le4 (S.1 0) (94 + 30 * q) k t r w v)) := by
  unfold r_layEntry le4
  rw [show (0 : Int32) = nI 0 from rfl, show (1 : Int32) = nI 1 from rfl, show (2 : Int32) = nI 2 from rfl, show (3 : Int32) = nI 3 from rfl]
  rw [r_letEntry_eq hq hk (by omega), bind_s, r_letEntry_eq hq hk (by omega), bind_s, r_letEntry_eq hq hk (by omega), bind_s, r_letEntry_eq hq hk (by omega), bind_s]
  simp only [r0_0, r0_r0]
/-- entries as the reference has them -/
abbrev Re : Type := Nat × Nat × Nat × Int32
def EC (f : Nat → Int32) (b j : Nat) (e : Re) : Prop := f (b + 2 + 4 * j) = nI e.1 ∧ f (b + 2 + 4 * j + 1) = nI e.2.1 ∧ f (b + 2 + 4 * j + 2) = nI e.2.2.1 ∧ f (b + 2 + 4 * j + 3) = e.2.2.2
def RP (f : Nat → Int32) (b : Nat) (lf : Bool) (L : List Re) : Prop := (f b = nI L.length ∧ f (b + 1) = bI (lf = true)) ∧ (∀ k e, L[k]? = some e → EC f b k e) ∧ L.length ≤ 7
theorem le4_out {f : Nat → Int32} {b k x : Nat} {t r w v : Int32} (h : x < b + 2 + 4 * k ∨ b + 2 + 4 * k + 4 ≤ x) : le4 f b k t r w v x = f x := by
  unfold le4
  rw [upd_n (by omega), upd_n (by omega), upd_n (by omega), upd_n (by omega)]
theorem le4_in {f : Nat → Int32} {b k : Nat} {e : Re} : EC (le4 f b k (nI e.1) (nI e.2.1) (nI e.2.2.1) e.2.2.2) b k e := by
  unfold EC le4
  refine ⟨?_, ?_, ?_, ?_⟩
  · rw [upd_n (by omega), upd_n (by omega), upd_n (by omega)]; exact upd_s
  · rw [upd_n (by omega), upd_n (by omega), upd_s]
  · rw [upd_n (by omega), upd_s]
  · rw [upd_s]
theorem EC.keep {f g : Nat → Int32} {b j : Nat} {e : Re} (h : EC f b j e) (hg : ∀ x, b + 2 + 4 * j ≤ x → x < b + 2 + 4 * j + 4 → g x = f x) : EC g b j e := by
  unfold EC
  rw [hg _ (by omega) (by omega), hg _ (by omega) (by omega), hg _ (by omega) (by omega), hg _ (by omega) (by omega)]
  exact h
theorem RP.keep {f g : Nat → Int32} {b : Nat} {lf : Bool} {L : List Re} (h : RP f b lf L) (hg : ∀ x, b ≤ x → x < b + 30 → g x = f x) : RP g b lf L := by
  obtain ⟨⟨h1, h2⟩, h3, h4⟩ := h
  refine ⟨⟨by rw [hg _ (by omega) (by omega)]; exact h1, by rw [hg _ (by omega) (by omega)]; exact h2⟩, fun k e he => ?_, h4⟩
  have := get_lt he
  exact (h3 k e he).keep (fun x q1 q2 => hg x (by omega) (by omega))
section G
variable {lf : Bool} {L : List Re} {f : Nat → Int32}
theorem RP.n (h : RP (S.1 0) (94 + 30 * q) lf L) (hq : q < 784) : r_countOf S (nI q) = some (nI L.length) := by rw [r_countOf_eq hq, h.1.1]
theorem RP.l (h : RP (S.1 0) (94 + 30 * q) lf L) (hq : q < 784) : r_isLeaf S (nI q) = some (bI (lf = true)) := by
  unfold r_isLeaf
  rw [show (1 : Int32) = nI 1 from rfl, r_at_eq hq (by omega), bind_s, h.1.2]
  cases lf <;> rfl
theorem RP.e0 (h : RP (S.1 0) (94 + 30 * q) lf L) (hq : q < 784) {e : Re} (he : L[k]? = some e) : r_entryOf S (nI q) (nI k) 0 = some (nI e.1) := by
  have := get_lt he
  have := h.2.2
  rw [show (0 : Int32) = nI 0 from rfl, r_entryOf_eq hq (by omega) (by omega)]
  exact congrArg some (h.2.1 k e he).1
theorem RP.e1 (h : RP (S.1 0) (94 + 30 * q) lf L) (hq : q < 784) {e : Re} (he : L[k]? = some e) : r_entryOf S (nI q) (nI k) 1 = some (nI e.2.1) := by
  have := get_lt he
  have := h.2.2
  rw [show (1 : Int32) = nI 1 from rfl, r_entryOf_eq hq (by omega) (by omega)]
  exact congrArg some (h.2.1 k e he).2.1
theorem RP.e2 (h : RP (S.1 0) (94 + 30 * q) lf L) (hq : q < 784) {e : Re} (he : L[k]? = some e) : r_entryOf S (nI q) (nI k) 2 = some (nI e.2.2.1) := by
  have := get_lt he
  have := h.2.2
  rw [show (2 : Int32) = nI 2 from rfl, r_entryOf_eq hq (by omega) (by omega)]
  exact congrArg some (h.2.1 k e he).2.2.1
theorem RP.e3 (h : RP (S.1 0) (94 + 30 * q) lf L) (hq : q < 784) {e : Re} (he : L[k]? = some e) : r_entryOf S (nI q) (nI k) 3 = some e.2.2.2 := by
  have := get_lt he
  have := h.2.2
  rw [show (3 : Int32) = nI 3 from rfl, r_entryOf_eq hq (by omega) (by omega)]
  exact congrArg some (h.2.1 k e he).2.2.2
/-- an entry anew -/
theorem RP.set (h : RP f (94 + 30 * q) lf L) {e : Re} (hk : k < L.length) : RP (le4 f (94 + 30 * q) k (nI e.1) (nI e.2.1) (nI e.2.2.1) e.2.2.2) (94 + 30 * q) lf (L.set k e) := by
  obtain ⟨⟨h1, h2⟩, h3, h4⟩ := h
  refine ⟨⟨?_, ?_⟩, fun j e2 he => ?_, by rw [List.length_set]; exact h4⟩
  · rw [le4_out (by omega), List.length_set]; exact h1
  · rw [le4_out (by omega)]; exact h2
  · rw [List.getElem?_set] at he
    by_cases z : k = j
    · rw [if_pos z, if_pos hk] at he
      cases he
      subst z
      exact le4_in
    · rw [if_neg z] at he
      have := get_lt he
      exact (h3 j e2 he).keep (fun x q1 q2 => le4_out (by omega))
/-- an entry comes at a place -/
theorem r_insert_eq (h : RP (S.1 0) (94 + 30 * q) lf L) (hq : q < 784) {e : Re} (hk : k ≤ L.length) (hl : L.length < 7) : ∃ g, r_insert S (nI q) (nI k) (nI e.1) (nI e.2.1) (nI e.2.2.1) e.2.2.2 = some (r0 S g) ∧ RP g (94 + 30 * q) lf (insE L k e) ∧ ∀ x, x < 94 + 30 * q ∨ 94 + 30 * q + 30 ≤ x → g x = S.1 0 x := by
  unfold r_insert
  rw [h.n hq, bind_s]
  have key : ∀ (m F c : Nat) (f : Nat → Int32), m < F → k + m = c → c ≤ L.length → f (94 + 30 * q) = nI L.length → f (94 + 30 * q + 1) = bI (lf = true) → (∀ j e2, j < c → L[j]? = some e2 → EC f (94 + 30 * q) j e2) → (∀ j e2, c < j → L[j - 1]? = some e2 → EC f (94 + 30 * q) j e2) → (∀ x, x < 94 + 30 * q ∨ 94 + 30 * q + 30 ≤ x → f x = S.1 0 x) → ∃ g, r_insert_7 F (nI q) (nI k) (nI e.1) (nI e.2.1) (nI e.2.2.1) e.2.2.2 (nI c) (r0 S f) = some (r0 S g) ∧ RP g (94 + 30 * q) lf (insE L k e) ∧ ∀ x, x < 94 + 30 * q ∨ 94 + 30 * q + 30 ≤ x → g x = S.1 0 x := by
    intro m
    induction m with
    | zero =>
      intro F c f hF hc hcl h1 h2 h3 h4 h5
      obtain ⟨F, rfl⟩ : ∃ F', F = F' + 1 := ⟨F - 1, by omega⟩
      have : c = k := by omega
      subst this
      rw [r_insert_7.eq_2, if_pos (nI_le (Nat.le_refl _) (by omega)), r_layEntry_eq hq (by omega), bind_s, r0_0, r0_r0, r_countOf_eq hq, bind_s, r0_0, le4_out (by omega), h1, nI_1]
      rw [show (0 : Int32) = nI 0 from rfl, r_let_eq hq (by omega), bind_s, r0_0, r0_r0]
      refine ⟨_, rfl, ⟨⟨?_, ?_⟩, fun j e2 he => ?_, by rw [insE_len]; omega⟩, fun x hx => ?_⟩
      · rw [insE_len]; exact upd_s
      · rw [upd_n (by omega), le4_out (by omega)]; exact h2
      · have hj := get_lt he
        rw [insE_len] at hj
        rw [insE_get hk] at he
        by_cases z1 : j < c
        · rw [if_pos z1] at he
          exact (h3 j e2 z1 he).keep (fun x q1 q2 => by rw [upd_n (by omega), le4_out (by omega)])
        · rw [if_neg z1] at he
          by_cases z2 : j = c
          · rw [if_pos z2] at he
            cases he
            subst z2
            exact (le4_in).keep (fun x q1 q2 => by rw [upd_n (by omega)])
          · rw [if_neg z2] at he
            exact (h4 j e2 (by omega) he).keep (fun x q1 q2 => by rw [upd_n (by omega), le4_out (by omega)])
      · rw [upd_n (by omega), le4_out (by omega)]
        exact h5 x hx
    | succ m ih =>
      intro F c f hF hc hcl h1 h2 h3 h4 h5
      obtain ⟨F, rfl⟩ : ∃ F', F = F' + 1 := ⟨F - 1, by omega⟩
      obtain ⟨e1, he1⟩ : ∃ e1, L[c - 1]? = some e1 := ⟨L[c - 1]'(by omega), List.getElem?_eq_getElem (by omega)⟩
      obtain ⟨c1, c2, c3, c4⟩ := h3 (c - 1) e1 (by omega) he1
      have s1 : nI c - 1 = nI (c - 1) := by rw [show (1 : Int32) = nI 1 from rfl, pk_sub (by omega)]
      have ee : ∀ j : Nat, j < 4 → r_entryOf (r0 S f) (nI q) (nI (c - 1)) (nI j) = some (f (94 + 30 * q + 2 + 4 * (c - 1) + j)) := fun j hj => by rw [r_entryOf_eq hq (by omega) hj, r0_0]
      have ee0 := ee 0 (by omega)
      have ee1 := ee 1 (by omega)
      have ee2 := ee 2 (by omega)
      have ee3 := ee 3 (by omega)
      rw [r_insert_7.eq_2, if_neg (nI_ge (by omega) (by omega)), s1, nI_dec (by omega), show (0 : Int32) = nI 0 from rfl, show (1 : Int32) = nI 1 from rfl, show (2 : Int32) = nI 2 from rfl, show (3 : Int32) = nI 3 from rfl, ee0, bind_s, ee1, bind_s, ee2, bind_s, ee3, bind_s, r_layEntry_eq hq (by omega), bind_s, r0_0, r0_r0, Nat.add_zero, c1, c2, c3, c4]
      refine ih F (c - 1) _ (by omega) (by omega) (by omega) ?_ ?_ (fun j e2 hj he => ?_) (fun j e2 hj he => ?_) (fun x hx => ?_)
      · rw [le4_out (by omega)]; exact h1
      · rw [le4_out (by omega)]; exact h2
      · exact (h3 j e2 (by omega) he).keep (fun x q1 q2 => le4_out (by omega))
      · by_cases z : j = c
        · subst z
          rw [he1] at he
          cases he
          exact le4_in
        · exact (h4 j e2 (by omega) he).keep (fun x q1 q2 => le4_out (by omega))
      · rw [le4_out (by omega)]; exact h5 x hx
  obtain ⟨g, g1, g2⟩ := key (L.length - k) FU L.length (S.1 0) FU_gt (by omega) (Nat.le_refl _) h.1.1 h.1.2 (fun j e2 _ he => h.2.1 j e2 he) (fun j e2 hj he => absurd (get_lt he) (by omega)) (fun _ _ => rfl)
  rw [r0_self] at g1
  exact ⟨g, g1, g2⟩
end G
end RPs
