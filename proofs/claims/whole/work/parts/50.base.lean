/-- no proof by computing -/
theorem nr {α : Type} {a b : α} (h : a = b) : a = b := h
/-- pure part: a number in the text is nI of it -/
theorem nI_lit (n : Nat) : (@OfNat.ofNat Int32 n _) = nI n := rfl
/-- a mirror goes through, and what is said of its answer -/
def Ok {α : Type} (m : Option α) (Q : α → Prop) : Prop := ∃ r, m = some r ∧ Q r
theorem ok_some {α : Type} {a : α} {Q : α → Prop} : Ok (some a) Q ↔ Q a := ⟨fun ⟨r, h, q⟩ => by cases h; exact q, fun h => ⟨a, rfl, h⟩⟩
theorem ok_bind {α β : Type} {m : Option α} {f : α → Option β} {Q : β → Prop} : Ok (m.bind f) Q ↔ Ok m (fun a => Ok (f a) Q) := by
  cases m with
  | none => exact ⟨fun q => (by obtain ⟨r, h, _⟩ := q; cases h), fun q => (by obtain ⟨r, h, _⟩ := q; cases h)⟩
  | some a => exact (ok_some (Q := fun a => Ok (f a) Q)).symm
theorem ok_bd2 {α β γ : Type} {o : Option (α × β)} {k : α → β → Option γ} {Q : γ → Prop} : Ok (bd2 o k) Q ↔ Ok o (fun p => Ok (k p.1 p.2) Q) := by
  cases o with
  | none => exact ⟨fun q => (by obtain ⟨r, h, _⟩ := q; cases h), fun q => (by obtain ⟨r, h, _⟩ := q; cases h)⟩
  | some a => exact (ok_some (Q := fun (p : α × β) => Ok (k p.1 p.2) Q)).symm
theorem ok_ite {α : Type} {c : Prop} [Decidable c] {a b : Option α} {Q : α → Prop} : Ok (if c then a else b) Q ↔ (c → Ok a Q) ∧ (¬ c → Ok b Q) := by
  by_cases h : c
  · rw [if_pos h]; exact ⟨fun q => ⟨fun _ => q, fun n => absurd h n⟩, fun q => q.1 h⟩
  · rw [if_neg h]; exact ⟨fun q => ⟨fun n => absurd n h, fun _ => q⟩, fun q => q.2 h⟩
theorem Ok.mono {α : Type} {m : Option α} {Q R : α → Prop} (h : Ok m Q) (f : ∀ a, Q a → R a) : Ok m R := h.elim fun r q => ⟨r, q.1, f r q.2⟩
theorem bind_s {α β : Type} {a : α} {f : α → Option β} : (some a).bind f = f a := rfl
theorem bd2_s {α β γ : Type} {a : α} {b : β} {k : α → β → Option γ} : bd2 (some (a, b)) k = k a b := rfl
theorem zb_0 : zb 0 = some 0 := rfl
theorem zb_1 : zb 1 = some 1 := rfl
def b2i (b : Bool) : Int32 := if b = true then 1 else 0
theorem b2i_t : b2i true = 1 := rfl
theorem b2i_f : b2i false = 0 := rfl
theorem nI_dec {a : Nat} (h : 0 < a) : nI a + (-1) = nI (a - 1) := by
  obtain ⟨b, rfl⟩ : ∃ b, a = b + 1 := ⟨a - 1, by omega⟩
  exact pk_m1 b
theorem nI_m1 {a : Nat} (h : a < 2 ^ 31) : nI a = -1 ↔ False := ⟨fun q => by
  have := nI_pos h
  rw [q] at this
  exact this (by decide), fun q => q.elim⟩
/-- a fold upward over m places from i -/
def fo {α : Type} (f : Nat → α → α) : Nat → Nat → α → α
  | 0, _, a => a
  | m + 1, i, a => fo f m (i + 1) (f i a)
theorem fo_congr {α : Type} {f g : Nat → α → α} : ∀ (m i : Nat) (a : α), (∀ j b, i ≤ j → j < i + m → f j b = g j b) → fo f m i a = fo g m i a
  | 0, _, _, _ => rfl
  | m + 1, i, a, h => by
    show fo f m (i + 1) (f i a) = fo g m (i + 1) (g i a)
    rw [h i a (Nat.le_refl i) (by omega)]
    exact fo_congr m (i + 1) _ (fun j b h1 h2 => h j b (by omega) (by omega))
/-- the first of m places from i that has something -/
def ffi {α : Type} (f : Nat → Option α) : Nat → Nat → Option α
  | 0, _ => none
  | m + 1, i => match f i with
    | some a => some a
    | none => ffi f m (i + 1)
theorem FU_gt {m : Nat} (h : m < 1000000 := by omega) : m < FU := h
-- the reference's cells
theorem rd_ok {S : MS} {j k : Nat} (h : k < m_len j) (hl : k < 2 ^ 31) : rd S j (nI k) = some (S.1 j k) := by
  unfold rd
  rw [nI_clamp hl, if_pos]
  intro q
  rcases q with q | q
  · exact nI_pos hl q
  · omega
theorem wr_ok {S : MS} {j k : Nat} {v : Int32} (h : k < m_len j) (hl : k < 2 ^ 31) : wr S j (nI k) v = some (up2 S.1 j k v, S.2) := by
  unfold wr
  rw [nI_clamp hl, if_pos]
  intro q
  rcases q with q | q
  · exact nI_pos hl q
  · omega
theorem len0 : m_len 0 = 495854 := rfl
theorem len1 : m_len 1 = 495854 := rfl
theorem len2 : m_len 2 = 7 := rfl
theorem len3 : m_len 3 = 7 := rfl
/-- the two rows of the editing measure are anything -/
def sc (S : MS) (x y : Nat → Int32) : MS := (fun j => if j = 2 then x else if j = 3 then y else S.1 j, S.2)
theorem sc_sc {S : MS} {x y u v : Nat → Int32} : sc (sc S x y) u v = sc S u v := by
  unfold sc
  congr 1
  funext j
  split
  · rfl
  · split
    · rfl
    · simp_all
theorem sc_self (S : MS) : sc S (S.1 2) (S.1 3) = S := by
  unfold sc
  congr 1
  funext j
  split
  · simp_all
  · split
    · simp_all
    · rfl
theorem sc_r {S : MS} {x y : Nat → Int32} {j : Nat} (h2 : j ≠ 2) (h3 : j ≠ 3) : (sc S x y).1 j = S.1 j := by
  unfold sc
  simp [h2, h3]
theorem sc_f {S : MS} {x y : Nat → Int32} : (sc S x y).2 = S.2 := rfl
-- the class's store
theorem kd_sfi {x : Hp} {i a : Nat} {v : Int32} : (sfi x i a v).kd = x.kd := nr rfl
theorem ln_sfi {x : Hp} {i a : Nat} {v : Int32} : (sfi x i a v).ln = x.ln := nr rfl
theorem fr_sfi {x : Hp} {i a : Nat} {v : Int32} : (sfi x i a v).fr = x.fr := nr rfl
theorem ar_sfi {x : Hp} {i a : Nat} {v : Int32} : (sfi x i a v).ar = x.ar := nr rfl
theorem rr_sfi {x : Hp} {i a : Nat} {v : Int32} : (sfi x i a v).rr = x.rr := nr rfl
theorem nx_sfi {x : Hp} {i a : Nat} {v : Int32} : (sfi x i a v).nx = x.nx := nr rfl
theorem us_sfi {x : Hp} {i a : Nat} {v : Int32} : (sfi x i a v).us = x.us := nr rfl
theorem fi_sfi {x : Hp} {i a : Nat} {v : Int32} {j b : Nat} : (sfi x i a v).fi j b = if j = i ∧ b = a then v else x.fi j b := nr rfl
theorem kd_sar {x : Hp} {i a : Nat} {v : Int32} : (sar x a i v).kd = x.kd := nr rfl
theorem ln_sar {x : Hp} {i a : Nat} {v : Int32} : (sar x a i v).ln = x.ln := nr rfl
theorem fr_sar {x : Hp} {i a : Nat} {v : Int32} : (sar x a i v).fr = x.fr := nr rfl
theorem fi_sar {x : Hp} {i a : Nat} {v : Int32} : (sar x a i v).fi = x.fi := nr rfl
theorem rr_sar {x : Hp} {i a : Nat} {v : Int32} : (sar x a i v).rr = x.rr := nr rfl
theorem nx_sar {x : Hp} {i a : Nat} {v : Int32} : (sar x a i v).nx = x.nx := nr rfl
theorem us_sar {x : Hp} {i a : Nat} {v : Int32} : (sar x a i v).us = x.us := nr rfl
theorem ar_sar {x : Hp} {i a : Nat} {v : Int32} {b j : Nat} : (sar x a i v).ar b j = if b = a ∧ j = i then v else x.ar b j := nr rfl
theorem kd_sfr {x : Hp} {i a v : Nat} : (sfr x i a v).kd = x.kd := nr rfl
theorem ln_sfr {x : Hp} {i a v : Nat} : (sfr x i a v).ln = x.ln := nr rfl
theorem fi_sfr {x : Hp} {i a v : Nat} : (sfr x i a v).fi = x.fi := nr rfl
theorem ar_sfr {x : Hp} {i a v : Nat} : (sfr x i a v).ar = x.ar := nr rfl
theorem rr_sfr {x : Hp} {i a v : Nat} : (sfr x i a v).rr = x.rr := nr rfl
theorem nx_sfr {x : Hp} {i a v : Nat} : (sfr x i a v).nx = x.nx := nr rfl
theorem us_sfr {x : Hp} {i a v : Nat} : (sfr x i a v).us = x.us := nr rfl
theorem fr_sfr {x : Hp} {i a v : Nat} {j b : Nat} : (sfr x i a v).fr j b = if j = i ∧ b = a then v else x.fr j b := nr rfl
theorem kd_srr {x : Hp} {i a v : Nat} : (srr x a i v).kd = x.kd := nr rfl
theorem ln_srr {x : Hp} {i a v : Nat} : (srr x a i v).ln = x.ln := nr rfl
theorem fi_srr {x : Hp} {i a v : Nat} : (srr x a i v).fi = x.fi := nr rfl
theorem fr_srr {x : Hp} {i a v : Nat} : (srr x a i v).fr = x.fr := nr rfl
theorem ar_srr {x : Hp} {i a v : Nat} : (srr x a i v).ar = x.ar := nr rfl
theorem nx_srr {x : Hp} {i a v : Nat} : (srr x a i v).nx = x.nx := nr rfl
theorem us_srr {x : Hp} {i a v : Nat} : (srr x a i v).us = x.us := nr rfl
theorem rr_srr {x : Hp} {i a v : Nat} {b j : Nat} : (srr x a i v).rr b j = if b = a ∧ j = i then v else x.rr b j := nr rfl
theorem gfi_ok {x : Hp} {t i a : Nat} (h : x.kd a = t) : gfi x t i a = some (x.fi i a) := if_pos h
theorem gfr_ok {x : Hp} {t i a : Nat} (h : x.kd a = t) : gfr x t i a = some (x.fr i a) := if_pos h
theorem pfi_ok {x : Hp} {t i a : Nat} {v : Int32} (h : x.kd a = t) : pfi x t i a v = some (sfi x i a v) := if_pos h
theorem pfr_ok {x : Hp} {t i a v : Nat} (h : x.kd a = t) : pfr x t i a v = some (sfr x i a v) := if_pos h
theorem pfz_ok {x : Hp} {t i a : Nat} {b : Bool} (h : x.kd a = t) : pfz x t i a (b2i b) = some (sfi x i a (b2i b)) := if_pos ⟨h, by cases b; exact Or.inl rfl; exact Or.inr rfl⟩
theorem pfz_0 {x : Hp} {t i a : Nat} (h : x.kd a = t) : pfz x t i a 0 = some (sfi x i a 0) := if_pos ⟨h, Or.inl rfl⟩
theorem pfz_1 {x : Hp} {t i a : Nat} (h : x.kd a = t) : pfz x t i a 1 = some (sfi x i a 1) := if_pos ⟨h, Or.inr rfl⟩
theorem ckd_ok {Y : Type} {x : Hp} {b t : Nat} {o : Option Y} (h : x.kd b = t) : ckd x b t o = o := if_pos h
theorem ald_ok {x : Hp} {t a k : Nat} (h : x.kd a = t) (hk : k < x.ln a) (hl : k < 2 ^ 31) : ald x t a (nI k) = some (x.ar a k) := by
  unfold ald
  rw [nI_clamp hl, if_pos]
  refine ⟨h, fun q => ?_⟩
  rcases q with q | q
  · exact nI_pos hl q
  · omega
theorem ast_ok {x : Hp} {t a k : Nat} {v : Int32} (h : x.kd a = t) (hk : k < x.ln a) (hl : k < 2 ^ 31) : ast x t a (nI k) v = some (sar x a k v) := by
  unfold ast
  rw [nI_clamp hl, if_pos]
  refine ⟨h, fun q => ?_⟩
  rcases q with q | q
  · exact nI_pos hl q
  · omega
theorem rld_ok {x : Hp} {a k : Nat} (h : x.kd a = 3) (hk : k < x.ln a) (hl : k < 2 ^ 31) : rld x a (nI k) = some (x.rr a k) := by
  unfold rld
  rw [nI_clamp hl, if_pos]
  refine ⟨h, fun q => ?_⟩
  rcases q with q | q
  · exact nI_pos hl q
  · omega
