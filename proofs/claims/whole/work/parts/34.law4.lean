def LS_put (Inv : Nat → Hp → MS → Prop) : Prop := ∀ n σ S (a1 : Int32), n < 512 → Inv n σ S → ∃ (r : Int32) (σ1 : Hp) (S1 : MS), kX11_put σ 2 a1 = some (r, σ1) ∧ r_put S a1 = some (r, S1) ∧ Inv (n + 1) σ1 S1
def LS_drop (Inv : Nat → Hp → MS → Prop) : Prop := ∀ n σ S (a1 : Int32), n < 512 → Inv n σ S → ∃ (r : Int32) (σ1 : Hp) (S1 : MS), kX11_drop σ 2 a1 = some (r, σ1) ∧ r_drop S a1 = some (r, S1) ∧ Inv (n + 1) σ1 S1
def LS_measure (Inv : Nat → Hp → MS → Prop) : Prop := ∀ n σ S (a1 : Int32), n < 512 → Inv n σ S → ∃ (r : Int32) (σ1 : Hp) (S1 : MS), kX11_measure σ 2 a1 = some (r, σ1) ∧ r_measure S a1 = some (r, S1) ∧ Inv (n + 1) σ1 S1
def LS_cap (Inv : Nat → Hp → MS → Prop) : Prop := ∀ n σ S (a1 : Int32), n < 512 → Inv n σ S → ∃ (r : Int32) (σ1 : Hp) (S1 : MS), kX11_cap σ 2 a1 = some (r, σ1) ∧ r_cap S a1 = some (r, S1) ∧ Inv (n + 1) σ1 S1
def LS_tell (Inv : Nat → Hp → MS → Prop) : Prop := ∀ n σ S (a1 a2 a3 : Int32), n < 512 → Inv n σ S → ∃ (r : Int32) (σ1 : Hp) (S1 : MS), kX11_tell σ 2 a1 a2 a3 = some (r, σ1) ∧ r_tell S a1 a2 a3 = some (r, S1) ∧ Inv (n + 1) σ1 S1
def LS_wipe (Inv : Nat → Hp → MS → Prop) : Prop := ∀ n σ S , n < 512 → Inv n σ S → ∃ (r : Int32) (σ1 : Hp) (S1 : MS), kX11_wipe σ 2  = some (r, σ1) ∧ r_wipe S  = some (r, S1) ∧ Inv (n + 1) σ1 S1
def LS_build (Inv : Nat → Hp → MS → Prop) : Prop := ∀ n σ S , n < 512 → Inv n σ S → ∃ (r : Int32) (σ1 : Hp) (S1 : MS), kX11_build σ 2  = some (r, σ1) ∧ r_build S  = some (r, S1) ∧ Inv (n + 1) σ1 S1
def LS_spell (Inv : Nat → Hp → MS → Prop) : Prop := ∀ n σ S (a1 a2 : Int32), n < 512 → Inv n σ S → ∃ (r : Int32) (σ1 : Hp) (S1 : MS), kX11_spell σ 2 a1 a2 = some (r, σ1) ∧ r_spell S a1 a2 = some (r, S1) ∧ Inv (n + 1) σ1 S1
def LS_tight (Inv : Nat → Hp → MS → Prop) : Prop := ∀ n σ S , n < 512 → Inv n σ S → ∃ (r : Int32) (σ1 : Hp) (S1 : MS), kX11_tight σ 2  = some (r, σ1) ∧ r_tight S  = some (r, S1) ∧ Inv (n + 1) σ1 S1
def LS_feed (Inv : Nat → Hp → MS → Prop) : Prop := ∀ n σ S (a1 a2 a3 a4 a5 : Int32), n < 512 → Inv n σ S → ∃ (r : Int32) (σ1 : Hp) (S1 : MS), kX11_feed σ 2 a1 a2 a3 a4 a5 = some (r, σ1) ∧ r_feed S a1 a2 a3 a4 a5 = some (r, S1) ∧ Inv (n + 1) σ1 S1
def LS_end (Inv : Nat → Hp → MS → Prop) : Prop := ∀ n σ S (a1 : Int32), n < 512 → Inv n σ S → ∃ (r : Int32) (σ1 : Hp) (S1 : MS), kX11_end σ 2 a1 = some (r, σ1) ∧ r_end S a1 = some (r, S1) ∧ Inv (n + 1) σ1 S1
def LS_perform (Inv : Nat → Hp → MS → Prop) : Prop := ∀ n σ S , n < 512 → Inv n σ S → ∃ (r : Int32) (σ1 : Hp) (S1 : MS), kX11_perform σ 2  = some (r, σ1) ∧ r_perform S  = some (r, S1) ∧ Inv (n + 1) σ1 S1
def LS_fault (Inv : Nat → Hp → MS → Prop) : Prop := ∀ n σ S , n < 512 → Inv n σ S → ∃ (r : Int32), kX11_fault σ 2  = some r ∧ r_fault S  = some r ∧ Inv (n + 1) σ S
def LS_reply (Inv : Nat → Hp → MS → Prop) : Prop := ∀ n σ S (a1 : Int32), n < 512 → Inv n σ S → ∃ (r : Int32), kX11_reply σ 2 a1 = some r ∧ r_reply S a1 = some r ∧ Inv (n + 1) σ S
def LS_undo (Inv : Nat → Hp → MS → Prop) : Prop := ∀ n σ S , n < 512 → Inv n σ S → ∃ (r : Int32) (σ1 : Hp) (S1 : MS), kX11_undo σ 2  = some (r, σ1) ∧ r_undo S  = some (r, S1) ∧ Inv (n + 1) σ1 S1
def LS_is (Inv : Nat → Hp → MS → Prop) : Prop := ∀ n σ S (a1 : Int32), n < 512 → Inv n σ S → ∃ (r : Int32) (S1 : MS), kX11_is σ 2 a1 = some r ∧ r_is S a1 = some (r, S1) ∧ Inv (n + 1) σ S1
def LS_word (Inv : Nat → Hp → MS → Prop) : Prop := ∀ n σ S (a1 : Int32), n < 512 → Inv n σ S → ∃ (r : Int32), kX11_word σ 2 a1 = some r ∧ r_word S a1 = some r ∧ Inv (n + 1) σ S
def LS_thing (Inv : Nat → Hp → MS → Prop) : Prop := ∀ n σ S (a1 : Int32), n < 512 → Inv n σ S → ∃ (r : Int32), kX11_thing σ 2 a1 = some r ∧ r_thing S a1 = some r ∧ Inv (n + 1) σ S
def LS_letters (Inv : Nat → Hp → MS → Prop) : Prop := ∀ n σ S (a1 : Int32), n < 512 → Inv n σ S → ∃ (r : Int32), kX11_letters σ 2 a1 = some r ∧ r_letters S a1 = some r ∧ Inv (n + 1) σ S
def LS_apart (Inv : Nat → Hp → MS → Prop) : Prop := ∀ n σ S (a1 a2 : Int32), n < 512 → Inv n σ S → ∃ (r : Int32) (σ1 : Hp) (S1 : MS), kX11_apart σ 2 a1 a2 = some (r, σ1) ∧ r_apart S a1 a2 = some (r, S1) ∧ Inv (n + 1) σ1 S1
def LS_far (Inv : Nat → Hp → MS → Prop) : Prop := ∀ n σ S (a1 a2 : Int32), n < 512 → Inv n σ S → ∃ (r : Int32) (S1 : MS), kX11_far σ 2 a1 a2 = some r ∧ r_far S a1 a2 = some (r, S1) ∧ Inv (n + 1) σ S1
def LS_page (Inv : Nat → Hp → MS → Prop) : Prop := ∀ n σ S (a1 a2 : Int32), n < 512 → Inv n σ S → ∃ (r : Int32) (σ1 : Hp) (S1 : MS), kX11_page σ 2 a1 a2 = some (r, σ1) ∧ r_page S a1 a2 = some (r, S1) ∧ Inv (n + 1) σ1 S1
def LS_entry (Inv : Nat → Hp → MS → Prop) : Prop := ∀ n σ S (a1 a2 a3 : Int32), n < 512 → Inv n σ S → ∃ (r : Int32) (σ1 : Hp) (S1 : MS), kX11_entry σ 2 a1 a2 a3 = some (r, σ1) ∧ r_entry S a1 a2 a3 = some (r, S1) ∧ Inv (n + 1) σ1 S1
def LS_leafOf (Inv : Nat → Hp → MS → Prop) : Prop := ∀ n σ S (a1 : Int32), n < 512 → Inv n σ S → ∃ (r : Int32) (σ1 : Hp) (S1 : MS), kX11_leafOf σ 2 a1 = some (r, σ1) ∧ r_leafOf S a1 = some (r, S1) ∧ Inv (n + 1) σ1 S1
def LS_within (Inv : Nat → Hp → MS → Prop) : Prop := ∀ n σ S (a1 a2 a3 : Int32), n < 512 → Inv n σ S → ∃ (r : Int32) (σ1 : Hp) (S1 : MS), kX11_within σ 2 a1 a2 a3 = some (r, σ1) ∧ r_within S a1 a2 a3 = some (r, S1) ∧ Inv (n + 1) σ1 S1
def LS_around (Inv : Nat → Hp → MS → Prop) : Prop := ∀ n σ S (a1 a2 a3 : Int32), n < 512 → Inv n σ S → ∃ (r : Int32) (σ1 : Hp) (S1 : MS), kX11_around σ 2 a1 a2 a3 = some (r, σ1) ∧ r_around S a1 a2 a3 = some (r, S1) ∧ Inv (n + 1) σ1 S1
def LS_near (Inv : Nat → Hp → MS → Prop) : Prop := ∀ n σ S (a1 a2 a3 : Int32), n < 512 → Inv n σ S → ∃ (r : Int32) (σ1 : Hp) (S1 : MS), kX11_near σ 2 a1 a2 a3 = some (r, σ1) ∧ r_near S a1 a2 a3 = some (r, S1) ∧ Inv (n + 1) σ1 S1
def LS_beside (Inv : Nat → Hp → MS → Prop) : Prop := ∀ n σ S (a1 a2 a3 : Int32), n < 512 → Inv n σ S → ∃ (r : Int32) (σ1 : Hp) (S1 : MS), kX11_beside σ 2 a1 a2 a3 = some (r, σ1) ∧ r_beside S a1 a2 a3 = some (r, S1) ∧ Inv (n + 1) σ1 S1
def LS_farthest (Inv : Nat → Hp → MS → Prop) : Prop := ∀ n σ S (a1 a2 a3 : Int32), n < 512 → Inv n σ S → ∃ (r : Int32) (σ1 : Hp) (S1 : MS), kX11_farthest σ 2 a1 a2 a3 = some (r, σ1) ∧ r_farthest S a1 a2 a3 = some (r, S1) ∧ Inv (n + 1) σ1 S1
def LS_cost (Inv : Nat → Hp → MS → Prop) : Prop := ∀ n σ S (a1 : Int32), n < 512 → Inv n σ S → ∃ (r : Int32), kX11_cost σ 2 a1 = some r ∧ r_cost S a1 = some r ∧ Inv (n + 1) σ S
def LS_scan (Inv : Nat → Hp → MS → Prop) : Prop := ∀ n σ S (a1 a2 : Int32), n < 512 → Inv n σ S → ∃ (r : Int32) (σ1 : Hp) (S1 : MS), kX11_scan σ 2 a1 a2 = some (r, σ1) ∧ r_scan S a1 a2 = some (r, S1) ∧ Inv (n + 1) σ1 S1
def LS_broken (Inv : Nat → Hp → MS → Prop) : Prop := ∀ n σ S (a1 : Int32), n < 512 → Inv n σ S → ∃ (r : Int32) (σ1 : Hp) (S1 : MS), kX11_broken σ 2 a1 = some (r, σ1) ∧ r_broken S a1 = some (r, S1) ∧ Inv (n + 1) σ1 S1
def LS_breaks (Inv : Nat → Hp → MS → Prop) : Prop := ∀ n σ S (a1 a2 : Int32), n < 512 → Inv n σ S → ∃ (r : Int32) (σ1 : Hp) (S1 : MS), kX11_breaks σ 2 a1 a2 = some (r, σ1) ∧ r_breaks S a1 a2 = some (r, S1) ∧ Inv (n + 1) σ1 S1
def LS_covers (Inv : Nat → Hp → MS → Prop) : Prop := ∀ n σ S , n < 512 → Inv n σ S → ∃ (r : Int32) (σ1 : Hp) (S1 : MS), kX11_covers σ 2  = some (r, σ1) ∧ r_covers S  = some (r, S1) ∧ Inv (n + 1) σ1 S1
def LS_pair (Inv : Nat → Hp → MS → Prop) : Prop := ∀ n σ S (a1 : Int32), n < 512 → Inv n σ S → ∃ (r : Int32) (S1 : MS), kX11_pair σ 2 a1 = some r ∧ r_pair S a1 = some (r, S1) ∧ Inv (n + 1) σ S1
def LS_couple (Inv : Nat → Hp → MS → Prop) : Prop := ∀ n σ S (a1 a2 : Int32), n < 512 → Inv n σ S → ∃ (r : Int32) (S1 : MS), kX11_couple σ 2 a1 a2 = some r ∧ r_couple S a1 a2 = some (r, S1) ∧ Inv (n + 1) σ S1
def LS_spaced (Inv : Nat → Hp → MS → Prop) : Prop := ∀ n σ S (a1 : Int32), n < 512 → Inv n σ S → ∃ (r : Int32) (S1 : MS), kX11_spaced σ 2 a1 = some r ∧ r_spaced S a1 = some (r, S1) ∧ Inv (n + 1) σ S1
def LS_lonely (Inv : Nat → Hp → MS → Prop) : Prop := ∀ n σ S , n < 512 → Inv n σ S → ∃ (r : Int32) (S1 : MS), kX11_lonely σ 2  = some r ∧ r_lonely S  = some (r, S1) ∧ Inv (n + 1) σ S1
def LS_pivot (Inv : Nat → Hp → MS → Prop) : Prop := ∀ n σ S (a1 : Int32), n < 512 → Inv n σ S → ∃ (r : Int32) (σ1 : Hp) (S1 : MS), kX11_pivot σ 2 a1 = some (r, σ1) ∧ r_pivot S a1 = some (r, S1) ∧ Inv (n + 1) σ1 S1
def LS_letter (Inv : Nat → Hp → MS → Prop) : Prop := ∀ n σ S (a1 a2 : Int32), n < 512 → Inv n σ S → ∃ (r : Int32) (σ1 : Hp), kX11_letter σ 2 a1 a2 = some (r, σ1) ∧ r_letter S a1 a2 = some r ∧ Inv (n + 1) σ1 S
def LS_middle (Inv : Nat → Hp → MS → Prop) : Prop := ∀ n σ S , n < 512 → Inv n σ S → ∃ (r : Int32) (S1 : MS), kX11_middle σ 2  = some r ∧ r_middle S  = some (r, S1) ∧ Inv (n + 1) σ S1
def LS_groups (Inv : Nat → Hp → MS → Prop) : Prop := ∀ n σ S (a1 a2 : Int32), n < 512 → Inv n σ S → ∃ (r : Int32) (σ1 : Hp) (S1 : MS), kX11_groups σ 2 a1 a2 = some (r, σ1) ∧ r_groups S a1 a2 = some (r, S1) ∧ Inv (n + 1) σ1 S1
def LS_chain (Inv : Nat → Hp → MS → Prop) : Prop := ∀ n σ S (a1 a2 : Int32), n < 512 → Inv n σ S → ∃ (r : Int32) (σ1 : Hp) (S1 : MS), kX11_chain σ 2 a1 a2 = some (r, σ1) ∧ r_chain S a1 a2 = some (r, S1) ∧ Inv (n + 1) σ1 S1
def LS_chainLong (Inv : Nat → Hp → MS → Prop) : Prop := ∀ n σ S (a1 : Int32), n < 512 → Inv n σ S → ∃ (r : Int32) (σ1 : Hp) (S1 : MS), kX11_chainLong σ 2 a1 = some (r, σ1) ∧ r_chainLong S a1 = some (r, S1) ∧ Inv (n + 1) σ1 S1
def LS_mean (Inv : Nat → Hp → MS → Prop) : Prop := ∀ n σ S , n < 512 → Inv n σ S → ∃ (r : Int32) (S1 : MS), kX11_mean σ 2  = some r ∧ r_mean S  = some (r, S1) ∧ Inv (n + 1) σ S1
def LS_image (Inv : Nat → Hp → MS → Prop) : Prop := ∀ n σ S , n < 512 → Inv n σ S → ∃ (r : Int32) (σ1 : Hp) (S1 : MS), kX11_image σ 2  = some (r, σ1) ∧ r_image S  = some (r, S1) ∧ Inv (n + 1) σ1 S1
def LS_back (Inv : Nat → Hp → MS → Prop) : Prop := ∀ n σ S , n < 512 → Inv n σ S → ∃ (r : Int32) (σ1 : Hp) (S1 : MS), kX11_back σ 2  = some (r, σ1) ∧ r_back S  = some (r, S1) ∧ Inv (n + 1) σ1 S1
def LS_steps (Inv : Nat → Hp → MS → Prop) : Prop := ∀ n σ S , n < 512 → Inv n σ S → ∃ (r : Int32), kX11_steps σ 2  = some r ∧ r_steps S  = some r ∧ Inv (n + 1) σ S
def LStep (Inv : Nat → Hp → MS → Prop) : Prop := (∀ n σ S, Inv n σ S → σ.kd 2 = 21) ∧ (∀ n σ S, n < 512 → Inv n σ S → Inv (n + 1) σ S) ∧ LS_put Inv ∧ LS_drop Inv ∧ LS_measure Inv ∧ LS_cap Inv ∧ LS_tell Inv ∧ LS_wipe Inv ∧ LS_build Inv ∧ LS_spell Inv ∧ LS_tight Inv ∧ LS_feed Inv ∧ LS_end Inv ∧ LS_perform Inv ∧ LS_fault Inv ∧ LS_reply Inv ∧ LS_undo Inv ∧ LS_is Inv ∧ LS_word Inv ∧ LS_thing Inv ∧ LS_letters Inv ∧ LS_apart Inv ∧ LS_far Inv ∧ LS_page Inv ∧ LS_entry Inv ∧ LS_leafOf Inv ∧ LS_within Inv ∧ LS_around Inv ∧ LS_near Inv ∧ LS_beside Inv ∧ LS_farthest Inv ∧ LS_cost Inv ∧ LS_scan Inv ∧ LS_broken Inv ∧ LS_breaks Inv ∧ LS_covers Inv ∧ LS_pair Inv ∧ LS_couple Inv ∧ LS_spaced Inv ∧ LS_lonely Inv ∧ LS_pivot Inv ∧ LS_letter Inv ∧ LS_middle Inv ∧ LS_groups Inv ∧ LS_chain Inv ∧ LS_chainLong Inv ∧ LS_mean Inv ∧ LS_image Inv ∧ LS_back Inv ∧ LS_steps Inv
section LAW4
variable {l : Launch} {G : Gt} {κ : KMt} {b L : Nat} {xs : Nat → Int32}
theorem nI_sub6 {L k : Nat} (hL : L ≤ 3072) (hk : 6 * k ≤ L) : (nI L - 6 < nI (6 * k)) ↔ L < 6 * k + 6 := by
  have h6 : (6 : Int32) = nI 6 := by decide
  rw [h6]
  by_cases h : 6 ≤ L
  · rw [pk_sub h, nI_ltI (by omega) (by omega)]
    omega
  · constructor
    · intro; omega
    · intro _
      have hk0 : 6 * k = 0 := by omega
      rw [hk0]
      have : ∀ L, L < 6 → nI L - nI 6 < nI 0 := by decide +kernel
      exact this L (by omega)
set_option maxHeartbeats 4000000 in
set_option maxRecDepth 100000 in
theorem law_loop {Inv : Nat → Hp → MS → Prop} (hst : LStep Inv) (hL : L ≤ 3072) : ∀ (n k : Nat) (σ : Hp) (S : MS), 512 - k < n → 6 * k ≤ L → Inv k σ S → GoL l G κ b L xs R_law code 4 18 [(0, .ref b), (1, .ref (G.adr 2)), (2, .ref κ.o), (3, .int (nI (6 * k)))] [] (σ, S) := by
  obtain ⟨hbs, hdf, hst⟩ := hst
  intro n
  induction n with
  | zero => intro k σ S h; omega
  | succ n ih =>
    intro k σ S hn hkL hI
    have hb := hbs k σ S hI
    refine GoL.iload_n 3 dL_18 rfl ?_
    refine GoL.aload_n 0 dL_19 rfl ?_
    refine GoL.slen (by omega) dL_20 ?_
    refine GoL.bipush 6 dL_21 (by decide) ?_
    refine GoL.isub dL_23 ?_
    refine GoL.icmp_gt 1500 dL_24 (by decide) (fun q => ?_) (fun q => ?_)
    · refine GoL.iconst 1 dL_1500 (by decide) ?_
      exact GoL.ret1 rfl dL_1501
    · have hkL6 : 6 * k + 6 ≤ L := by
        have := mt (nI_sub6 hL hkL).mpr q
        omega
      have hk : k < 512 := by omega
      have nxt : ∀ σ1 S1, Inv (k + 1) σ1 S1 → GoL l G κ b L xs R_law code 4 1494 [(0, .ref b), (1, .ref (G.adr 2)), (2, .ref κ.o), (3, .int (nI (6 * k)))] [] (σ1, S1) := by
        intro σ1 S1 hI1
        refine GoL.iinc (w := 6) 3 [(0, .ref b), (1, .ref (G.adr 2)), (2, .ref κ.o), (3, .int (nI (6 * k) + 6))] dL_1494 rfl (by decide) (by decide) rfl ?_
        refine GoL.goto 18 dL_1497 (by decide) ?_
        have e : nI (6 * k) + 6 = nI (6 * (k + 1)) := by
          rw [show (6 : Int32) = nI 6 by decide, nI_add]
          rfl
        rw [e]
        exact ih (k + 1) σ1 S1 (by omega) (by omega) hI1
      refine GoL.aload_n 0 dL_27 rfl ?_
      refine GoL.iload_n 3 dL_28 rfl ?_
      refine GoL.sld (vp_in_nI (by omega) (by omega)) dL_29 ?_
      rw [nI_clamp (by omega)]
      refine GoL.bipush 63 dL_30 (by decide) ?_
      refine GoL.iand dL_32 ?_
      by_cases cc0 : xs (6 * k) &&& 63 = 0
      · obtain ⟨r, σ1, S1, hc, hr, hI1⟩ := hst.1 k σ S (xs (6 * k + 1)) hk hI
        refine GoL.tabIn 240 0 cc0 dL_33 (by decide) (by decide) rfl (by decide) ?_
        exact law_c0 (by omega) hL hb hc hr (nxt _ _ hI1)
      by_cases cc1 : xs (6 * k) &&& 63 = 1
      · obtain ⟨r, σ1, S1, hc, hr, hI1⟩ := hst.2.1 k σ S (xs (6 * k + 1)) hk hI
        refine GoL.tabIn 263 1 cc1 dL_33 (by decide) (by decide) rfl (by decide) ?_
        exact law_c1 (by omega) hL hb hc hr (nxt _ _ hI1)
      by_cases cc2 : xs (6 * k) &&& 63 = 2
      · obtain ⟨r, σ1, S1, hc, hr, hI1⟩ := hst.2.2.1 k σ S (xs (6 * k + 1)) hk hI
        refine GoL.tabIn 286 2 cc2 dL_33 (by decide) (by decide) rfl (by decide) ?_
        exact law_c2 (by omega) hL hb hc hr (nxt _ _ hI1)
      by_cases cc3 : xs (6 * k) &&& 63 = 3
      · obtain ⟨r, σ1, S1, hc, hr, hI1⟩ := hst.2.2.2.1 k σ S (xs (6 * k + 1)) hk hI
        refine GoL.tabIn 309 3 cc3 dL_33 (by decide) (by decide) rfl (by decide) ?_
        exact law_c3 (by omega) hL hb hc hr (nxt _ _ hI1)
      by_cases cc4 : xs (6 * k) &&& 63 = 4
      · obtain ⟨r, σ1, S1, hc, hr, hI1⟩ := hst.2.2.2.2.1 k σ S (xs (6 * k + 1)) (xs (6 * k + 2)) (xs (6 * k + 3)) hk hI
        refine GoL.tabIn 332 4 cc4 dL_33 (by decide) (by decide) rfl (by decide) ?_
        exact law_c4 (by omega) hL hb hc hr (nxt _ _ hI1)
      by_cases cc5 : xs (6 * k) &&& 63 = 5
      · obtain ⟨r, σ1, S1, hc, hr, hI1⟩ := hst.2.2.2.2.2.1 k σ S  hk hI
        refine GoL.tabIn 375 5 cc5 dL_33 (by decide) (by decide) rfl (by decide) ?_
        exact law_c5 (by omega) hL hb hc hr (nxt _ _ hI1)
      by_cases cc6 : xs (6 * k) &&& 63 = 6
      · obtain ⟨r, σ1, S1, hc, hr, hI1⟩ := hst.2.2.2.2.2.2.1 k σ S  hk hI
        refine GoL.tabIn 388 6 cc6 dL_33 (by decide) (by decide) rfl (by decide) ?_
        exact law_c6 (by omega) hL hb hc hr (nxt _ _ hI1)
      by_cases cc7 : xs (6 * k) &&& 63 = 7
      · obtain ⟨r, σ1, S1, hc, hr, hI1⟩ := hst.2.2.2.2.2.2.2.1 k σ S (xs (6 * k + 1)) (xs (6 * k + 2)) hk hI
        refine GoL.tabIn 401 7 cc7 dL_33 (by decide) (by decide) rfl (by decide) ?_
        exact law_c7 (by omega) hL hb hc hr (nxt _ _ hI1)
      by_cases cc8 : xs (6 * k) &&& 63 = 8
      · obtain ⟨r, σ1, S1, hc, hr, hI1⟩ := hst.2.2.2.2.2.2.2.2.1 k σ S  hk hI
        refine GoL.tabIn 434 8 cc8 dL_33 (by decide) (by decide) rfl (by decide) ?_
        exact law_c8 (by omega) hL hb hc hr (nxt _ _ hI1)
      by_cases cc9 : xs (6 * k) &&& 63 = 9
      · obtain ⟨r, σ1, S1, hc, hr, hI1⟩ := hst.2.2.2.2.2.2.2.2.2.1 k σ S (xs (6 * k + 1)) (xs (6 * k + 2)) (xs (6 * k + 3)) (xs (6 * k + 4)) (xs (6 * k + 5)) hk hI
        refine GoL.tabIn 447 9 cc9 dL_33 (by decide) (by decide) rfl (by decide) ?_
        exact law_c9 (by omega) hL hb hc hr (nxt _ _ hI1)
      by_cases cc10 : xs (6 * k) &&& 63 = 10
      · obtain ⟨r, σ1, S1, hc, hr, hI1⟩ := hst.2.2.2.2.2.2.2.2.2.2.1 k σ S (xs (6 * k + 1)) hk hI
        refine GoL.tabIn 510 10 cc10 dL_33 (by decide) (by decide) rfl (by decide) ?_
        exact law_c10 (by omega) hL hb hc hr (nxt _ _ hI1)
      by_cases cc11 : xs (6 * k) &&& 63 = 11
      · obtain ⟨r, σ1, S1, hc, hr, hI1⟩ := hst.2.2.2.2.2.2.2.2.2.2.2.1 k σ S  hk hI
        refine GoL.tabIn 533 11 cc11 dL_33 (by decide) (by decide) rfl (by decide) ?_
        exact law_c11 (by omega) hL hb hc hr (nxt _ _ hI1)
      by_cases cc12 : xs (6 * k) &&& 63 = 12
      · obtain ⟨r, hc, hr, hI1⟩ := hst.2.2.2.2.2.2.2.2.2.2.2.2.1 k σ S  hk hI
        refine GoL.tabIn 546 12 cc12 dL_33 (by decide) (by decide) rfl (by decide) ?_
        exact law_c12 (by omega) hL hb hc hr (nxt _ _ hI1)
      by_cases cc13 : xs (6 * k) &&& 63 = 13
      · obtain ⟨r, hc, hr, hI1⟩ := hst.2.2.2.2.2.2.2.2.2.2.2.2.2.1 k σ S (xs (6 * k + 1)) hk hI
        refine GoL.tabIn 559 13 cc13 dL_33 (by decide) (by decide) rfl (by decide) ?_
        exact law_c13 (by omega) hL hb hc hr (nxt _ _ hI1)
      by_cases cc14 : xs (6 * k) &&& 63 = 14
      · obtain ⟨r, σ1, S1, hc, hr, hI1⟩ := hst.2.2.2.2.2.2.2.2.2.2.2.2.2.2.1 k σ S  hk hI
        refine GoL.tabIn 582 14 cc14 dL_33 (by decide) (by decide) rfl (by decide) ?_
        exact law_c14 (by omega) hL hb hc hr (nxt _ _ hI1)
      by_cases cc15 : xs (6 * k) &&& 63 = 15
      · obtain ⟨r, S1, hc, hr, hI1⟩ := hst.2.2.2.2.2.2.2.2.2.2.2.2.2.2.2.1 k σ S (xs (6 * k + 1)) hk hI
        refine GoL.tabIn 595 15 cc15 dL_33 (by decide) (by decide) rfl (by decide) ?_
        exact law_c15 (by omega) hL hb hc hr (nxt _ _ hI1)
      by_cases cc16 : xs (6 * k) &&& 63 = 16
      · obtain ⟨r, hc, hr, hI1⟩ := hst.2.2.2.2.2.2.2.2.2.2.2.2.2.2.2.2.1 k σ S (xs (6 * k + 1)) hk hI
        refine GoL.tabIn 618 16 cc16 dL_33 (by decide) (by decide) rfl (by decide) ?_
        exact law_c16 (by omega) hL hb hc hr (nxt _ _ hI1)
      by_cases cc17 : xs (6 * k) &&& 63 = 17
      · obtain ⟨r, hc, hr, hI1⟩ := hst.2.2.2.2.2.2.2.2.2.2.2.2.2.2.2.2.2.1 k σ S (xs (6 * k + 1)) hk hI
        refine GoL.tabIn 641 17 cc17 dL_33 (by decide) (by decide) rfl (by decide) ?_
        exact law_c17 (by omega) hL hb hc hr (nxt _ _ hI1)
      by_cases cc18 : xs (6 * k) &&& 63 = 18
      · obtain ⟨r, hc, hr, hI1⟩ := hst.2.2.2.2.2.2.2.2.2.2.2.2.2.2.2.2.2.2.1 k σ S (xs (6 * k + 1)) hk hI
        refine GoL.tabIn 664 18 cc18 dL_33 (by decide) (by decide) rfl (by decide) ?_
        exact law_c18 (by omega) hL hb hc hr (nxt _ _ hI1)
      by_cases cc19 : xs (6 * k) &&& 63 = 19
      · obtain ⟨r, σ1, S1, hc, hr, hI1⟩ := hst.2.2.2.2.2.2.2.2.2.2.2.2.2.2.2.2.2.2.2.1 k σ S (xs (6 * k + 1)) (xs (6 * k + 2)) hk hI
        refine GoL.tabIn 687 19 cc19 dL_33 (by decide) (by decide) rfl (by decide) ?_
        exact law_c19 (by omega) hL hb hc hr (nxt _ _ hI1)
      by_cases cc20 : xs (6 * k) &&& 63 = 20
      · obtain ⟨r, S1, hc, hr, hI1⟩ := hst.2.2.2.2.2.2.2.2.2.2.2.2.2.2.2.2.2.2.2.2.1 k σ S (xs (6 * k + 1)) (xs (6 * k + 2)) hk hI
        refine GoL.tabIn 720 20 cc20 dL_33 (by decide) (by decide) rfl (by decide) ?_
        exact law_c20 (by omega) hL hb hc hr (nxt _ _ hI1)
      by_cases cc21 : xs (6 * k) &&& 63 = 21
      · obtain ⟨r, σ1, S1, hc, hr, hI1⟩ := hst.2.2.2.2.2.2.2.2.2.2.2.2.2.2.2.2.2.2.2.2.2.1 k σ S (xs (6 * k + 1)) (xs (6 * k + 2)) hk hI
        refine GoL.tabIn 753 21 cc21 dL_33 (by decide) (by decide) rfl (by decide) ?_
        exact law_c21 (by omega) hL hb hc hr (nxt _ _ hI1)
      by_cases cc22 : xs (6 * k) &&& 63 = 22
      · obtain ⟨r, σ1, S1, hc, hr, hI1⟩ := hst.2.2.2.2.2.2.2.2.2.2.2.2.2.2.2.2.2.2.2.2.2.2.1 k σ S (xs (6 * k + 1)) (xs (6 * k + 2)) (xs (6 * k + 3)) hk hI
        refine GoL.tabIn 786 22 cc22 dL_33 (by decide) (by decide) rfl (by decide) ?_
        exact law_c22 (by omega) hL hb hc hr (nxt _ _ hI1)
      by_cases cc23 : xs (6 * k) &&& 63 = 23
      · obtain ⟨r, σ1, S1, hc, hr, hI1⟩ := hst.2.2.2.2.2.2.2.2.2.2.2.2.2.2.2.2.2.2.2.2.2.2.2.1 k σ S (xs (6 * k + 1)) hk hI
        refine GoL.tabIn 829 23 cc23 dL_33 (by decide) (by decide) rfl (by decide) ?_
        exact law_c23 (by omega) hL hb hc hr (nxt _ _ hI1)
      by_cases cc24 : xs (6 * k) &&& 63 = 24
      · obtain ⟨r, σ1, S1, hc, hr, hI1⟩ := hst.2.2.2.2.2.2.2.2.2.2.2.2.2.2.2.2.2.2.2.2.2.2.2.2.1 k σ S (xs (6 * k + 1)) (xs (6 * k + 2)) (xs (6 * k + 3)) hk hI
        refine GoL.tabIn 852 24 cc24 dL_33 (by decide) (by decide) rfl (by decide) ?_
        exact law_c24 (by omega) hL hb hc hr (nxt _ _ hI1)
      by_cases cc25 : xs (6 * k) &&& 63 = 25
      · obtain ⟨r, σ1, S1, hc, hr, hI1⟩ := hst.2.2.2.2.2.2.2.2.2.2.2.2.2.2.2.2.2.2.2.2.2.2.2.2.2.1 k σ S (xs (6 * k + 1)) (xs (6 * k + 2)) (xs (6 * k + 3)) hk hI
        refine GoL.tabIn 895 25 cc25 dL_33 (by decide) (by decide) rfl (by decide) ?_
        exact law_c25 (by omega) hL hb hc hr (nxt _ _ hI1)
      by_cases cc26 : xs (6 * k) &&& 63 = 26
      · obtain ⟨r, σ1, S1, hc, hr, hI1⟩ := hst.2.2.2.2.2.2.2.2.2.2.2.2.2.2.2.2.2.2.2.2.2.2.2.2.2.2.1 k σ S (xs (6 * k + 1)) (xs (6 * k + 2)) (xs (6 * k + 3)) hk hI
        refine GoL.tabIn 938 26 cc26 dL_33 (by decide) (by decide) rfl (by decide) ?_
        exact law_c26 (by omega) hL hb hc hr (nxt _ _ hI1)
      by_cases cc27 : xs (6 * k) &&& 63 = 27
      · obtain ⟨r, σ1, S1, hc, hr, hI1⟩ := hst.2.2.2.2.2.2.2.2.2.2.2.2.2.2.2.2.2.2.2.2.2.2.2.2.2.2.2.1 k σ S (xs (6 * k + 1)) (xs (6 * k + 2)) (xs (6 * k + 3)) hk hI
        refine GoL.tabIn 981 27 cc27 dL_33 (by decide) (by decide) rfl (by decide) ?_
        exact law_c27 (by omega) hL hb hc hr (nxt _ _ hI1)
      by_cases cc28 : xs (6 * k) &&& 63 = 28
      · obtain ⟨r, σ1, S1, hc, hr, hI1⟩ := hst.2.2.2.2.2.2.2.2.2.2.2.2.2.2.2.2.2.2.2.2.2.2.2.2.2.2.2.2.1 k σ S (xs (6 * k + 1)) (xs (6 * k + 2)) (xs (6 * k + 3)) hk hI
        refine GoL.tabIn 1024 28 cc28 dL_33 (by decide) (by decide) rfl (by decide) ?_
        exact law_c28 (by omega) hL hb hc hr (nxt _ _ hI1)
      by_cases cc29 : xs (6 * k) &&& 63 = 29
      · obtain ⟨r, hc, hr, hI1⟩ := hst.2.2.2.2.2.2.2.2.2.2.2.2.2.2.2.2.2.2.2.2.2.2.2.2.2.2.2.2.2.1 k σ S (xs (6 * k + 1)) hk hI
        refine GoL.tabIn 1067 29 cc29 dL_33 (by decide) (by decide) rfl (by decide) ?_
        exact law_c29 (by omega) hL hb hc hr (nxt _ _ hI1)
      by_cases cc30 : xs (6 * k) &&& 63 = 30
      · obtain ⟨r, σ1, S1, hc, hr, hI1⟩ := hst.2.2.2.2.2.2.2.2.2.2.2.2.2.2.2.2.2.2.2.2.2.2.2.2.2.2.2.2.2.2.1 k σ S (xs (6 * k + 1)) (xs (6 * k + 2)) hk hI
        refine GoL.tabIn 1090 30 cc30 dL_33 (by decide) (by decide) rfl (by decide) ?_
        exact law_c30 (by omega) hL hb hc hr (nxt _ _ hI1)
      by_cases cc31 : xs (6 * k) &&& 63 = 31
      · obtain ⟨r, σ1, S1, hc, hr, hI1⟩ := hst.2.2.2.2.2.2.2.2.2.2.2.2.2.2.2.2.2.2.2.2.2.2.2.2.2.2.2.2.2.2.2.1 k σ S (xs (6 * k + 1)) hk hI
        refine GoL.tabIn 1123 31 cc31 dL_33 (by decide) (by decide) rfl (by decide) ?_
        exact law_c31 (by omega) hL hb hc hr (nxt _ _ hI1)
      by_cases cc32 : xs (6 * k) &&& 63 = 32
      · obtain ⟨r, σ1, S1, hc, hr, hI1⟩ := hst.2.2.2.2.2.2.2.2.2.2.2.2.2.2.2.2.2.2.2.2.2.2.2.2.2.2.2.2.2.2.2.2.1 k σ S (xs (6 * k + 1)) (xs (6 * k + 2)) hk hI
        refine GoL.tabIn 1146 32 cc32 dL_33 (by decide) (by decide) rfl (by decide) ?_
        exact law_c32 (by omega) hL hb hc hr (nxt _ _ hI1)
      by_cases cc33 : xs (6 * k) &&& 63 = 33
      · obtain ⟨r, σ1, S1, hc, hr, hI1⟩ := hst.2.2.2.2.2.2.2.2.2.2.2.2.2.2.2.2.2.2.2.2.2.2.2.2.2.2.2.2.2.2.2.2.2.1 k σ S  hk hI
        refine GoL.tabIn 1179 33 cc33 dL_33 (by decide) (by decide) rfl (by decide) ?_
        exact law_c33 (by omega) hL hb hc hr (nxt _ _ hI1)
      by_cases cc34 : xs (6 * k) &&& 63 = 34
      · obtain ⟨r, S1, hc, hr, hI1⟩ := hst.2.2.2.2.2.2.2.2.2.2.2.2.2.2.2.2.2.2.2.2.2.2.2.2.2.2.2.2.2.2.2.2.2.2.1 k σ S (xs (6 * k + 1)) hk hI
        refine GoL.tabIn 1192 34 cc34 dL_33 (by decide) (by decide) rfl (by decide) ?_
        exact law_c34 (by omega) hL hb hc hr (nxt _ _ hI1)
      by_cases cc35 : xs (6 * k) &&& 63 = 35
      · obtain ⟨r, S1, hc, hr, hI1⟩ := hst.2.2.2.2.2.2.2.2.2.2.2.2.2.2.2.2.2.2.2.2.2.2.2.2.2.2.2.2.2.2.2.2.2.2.2.1 k σ S (xs (6 * k + 1)) (xs (6 * k + 2)) hk hI
        refine GoL.tabIn 1215 35 cc35 dL_33 (by decide) (by decide) rfl (by decide) ?_
        exact law_c35 (by omega) hL hb hc hr (nxt _ _ hI1)
      by_cases cc36 : xs (6 * k) &&& 63 = 36
      · obtain ⟨r, S1, hc, hr, hI1⟩ := hst.2.2.2.2.2.2.2.2.2.2.2.2.2.2.2.2.2.2.2.2.2.2.2.2.2.2.2.2.2.2.2.2.2.2.2.2.1 k σ S (xs (6 * k + 1)) hk hI
        refine GoL.tabIn 1248 36 cc36 dL_33 (by decide) (by decide) rfl (by decide) ?_
        exact law_c36 (by omega) hL hb hc hr (nxt _ _ hI1)
      by_cases cc37 : xs (6 * k) &&& 63 = 37
      · obtain ⟨r, S1, hc, hr, hI1⟩ := hst.2.2.2.2.2.2.2.2.2.2.2.2.2.2.2.2.2.2.2.2.2.2.2.2.2.2.2.2.2.2.2.2.2.2.2.2.2.1 k σ S  hk hI
        refine GoL.tabIn 1271 37 cc37 dL_33 (by decide) (by decide) rfl (by decide) ?_
        exact law_c37 (by omega) hL hb hc hr (nxt _ _ hI1)
      by_cases cc38 : xs (6 * k) &&& 63 = 38
      · obtain ⟨r, σ1, S1, hc, hr, hI1⟩ := hst.2.2.2.2.2.2.2.2.2.2.2.2.2.2.2.2.2.2.2.2.2.2.2.2.2.2.2.2.2.2.2.2.2.2.2.2.2.2.1 k σ S (xs (6 * k + 1)) hk hI
        refine GoL.tabIn 1284 38 cc38 dL_33 (by decide) (by decide) rfl (by decide) ?_
        exact law_c38 (by omega) hL hb hc hr (nxt _ _ hI1)
      by_cases cc39 : xs (6 * k) &&& 63 = 39
      · obtain ⟨r, σ1, hc, hr, hI1⟩ := hst.2.2.2.2.2.2.2.2.2.2.2.2.2.2.2.2.2.2.2.2.2.2.2.2.2.2.2.2.2.2.2.2.2.2.2.2.2.2.2.1 k σ S (xs (6 * k + 1)) (xs (6 * k + 2)) hk hI
        refine GoL.tabIn 1307 39 cc39 dL_33 (by decide) (by decide) rfl (by decide) ?_
        exact law_c39 (by omega) hL hb hc hr (nxt _ _ hI1)
      by_cases cc40 : xs (6 * k) &&& 63 = 40
      · obtain ⟨r, S1, hc, hr, hI1⟩ := hst.2.2.2.2.2.2.2.2.2.2.2.2.2.2.2.2.2.2.2.2.2.2.2.2.2.2.2.2.2.2.2.2.2.2.2.2.2.2.2.2.1 k σ S  hk hI
        refine GoL.tabIn 1340 40 cc40 dL_33 (by decide) (by decide) rfl (by decide) ?_
        exact law_c40 (by omega) hL hb hc hr (nxt _ _ hI1)
      by_cases cc41 : xs (6 * k) &&& 63 = 41
      · obtain ⟨r, σ1, S1, hc, hr, hI1⟩ := hst.2.2.2.2.2.2.2.2.2.2.2.2.2.2.2.2.2.2.2.2.2.2.2.2.2.2.2.2.2.2.2.2.2.2.2.2.2.2.2.2.2.1 k σ S (xs (6 * k + 1)) (xs (6 * k + 2)) hk hI
        refine GoL.tabIn 1353 41 cc41 dL_33 (by decide) (by decide) rfl (by decide) ?_
        exact law_c41 (by omega) hL hb hc hr (nxt _ _ hI1)
      by_cases cc42 : xs (6 * k) &&& 63 = 42
      · obtain ⟨r, σ1, S1, hc, hr, hI1⟩ := hst.2.2.2.2.2.2.2.2.2.2.2.2.2.2.2.2.2.2.2.2.2.2.2.2.2.2.2.2.2.2.2.2.2.2.2.2.2.2.2.2.2.2.1 k σ S (xs (6 * k + 1)) (xs (6 * k + 2)) hk hI
        refine GoL.tabIn 1386 42 cc42 dL_33 (by decide) (by decide) rfl (by decide) ?_
        exact law_c42 (by omega) hL hb hc hr (nxt _ _ hI1)
      by_cases cc43 : xs (6 * k) &&& 63 = 43
      · obtain ⟨r, σ1, S1, hc, hr, hI1⟩ := hst.2.2.2.2.2.2.2.2.2.2.2.2.2.2.2.2.2.2.2.2.2.2.2.2.2.2.2.2.2.2.2.2.2.2.2.2.2.2.2.2.2.2.2.1 k σ S (xs (6 * k + 1)) hk hI
        refine GoL.tabIn 1419 43 cc43 dL_33 (by decide) (by decide) rfl (by decide) ?_
        exact law_c43 (by omega) hL hb hc hr (nxt _ _ hI1)
      by_cases cc44 : xs (6 * k) &&& 63 = 44
      · obtain ⟨r, S1, hc, hr, hI1⟩ := hst.2.2.2.2.2.2.2.2.2.2.2.2.2.2.2.2.2.2.2.2.2.2.2.2.2.2.2.2.2.2.2.2.2.2.2.2.2.2.2.2.2.2.2.2.1 k σ S  hk hI
        refine GoL.tabIn 1442 44 cc44 dL_33 (by decide) (by decide) rfl (by decide) ?_
        exact law_c44 (by omega) hL hb hc hr (nxt _ _ hI1)
      by_cases cc45 : xs (6 * k) &&& 63 = 45
      · obtain ⟨r, σ1, S1, hc, hr, hI1⟩ := hst.2.2.2.2.2.2.2.2.2.2.2.2.2.2.2.2.2.2.2.2.2.2.2.2.2.2.2.2.2.2.2.2.2.2.2.2.2.2.2.2.2.2.2.2.2.1 k σ S  hk hI
        refine GoL.tabIn 1455 45 cc45 dL_33 (by decide) (by decide) rfl (by decide) ?_
        exact law_c45 (by omega) hL hb hc hr (nxt _ _ hI1)
      by_cases cc46 : xs (6 * k) &&& 63 = 46
      · obtain ⟨r, σ1, S1, hc, hr, hI1⟩ := hst.2.2.2.2.2.2.2.2.2.2.2.2.2.2.2.2.2.2.2.2.2.2.2.2.2.2.2.2.2.2.2.2.2.2.2.2.2.2.2.2.2.2.2.2.2.2.1 k σ S  hk hI
        refine GoL.tabIn 1468 46 cc46 dL_33 (by decide) (by decide) rfl (by decide) ?_
        exact law_c46 (by omega) hL hb hc hr (nxt _ _ hI1)
      by_cases cc47 : xs (6 * k) &&& 63 = 47
      · obtain ⟨r, hc, hr, hI1⟩ := hst.2.2.2.2.2.2.2.2.2.2.2.2.2.2.2.2.2.2.2.2.2.2.2.2.2.2.2.2.2.2.2.2.2.2.2.2.2.2.2.2.2.2.2.2.2.2.2 k σ S  hk hI
        refine GoL.tabIn 1481 47 cc47 dL_33 (by decide) (by decide) rfl (by decide) ?_
        exact law_c47 (by omega) hL hb hc hr (nxt _ _ hI1)
      refine GoL.tabOut 1494 dL_33 (sw_out 0 48 (by decide) (fun k2 hk2 => match k2, hk2 with | 0, _ => cc0 | 1, _ => cc1 | 2, _ => cc2 | 3, _ => cc3 | 4, _ => cc4 | 5, _ => cc5 | 6, _ => cc6 | 7, _ => cc7 | 8, _ => cc8 | 9, _ => cc9 | 10, _ => cc10 | 11, _ => cc11 | 12, _ => cc12 | 13, _ => cc13 | 14, _ => cc14 | 15, _ => cc15 | 16, _ => cc16 | 17, _ => cc17 | 18, _ => cc18 | 19, _ => cc19 | 20, _ => cc20 | 21, _ => cc21 | 22, _ => cc22 | 23, _ => cc23 | 24, _ => cc24 | 25, _ => cc25 | 26, _ => cc26 | 27, _ => cc27 | 28, _ => cc28 | 29, _ => cc29 | 30, _ => cc30 | 31, _ => cc31 | 32, _ => cc32 | 33, _ => cc33 | 34, _ => cc34 | 35, _ => cc35 | 36, _ => cc36 | 37, _ => cc37 | 38, _ => cc38 | 39, _ => cc39 | 40, _ => cc40 | 41, _ => cc41 | 42, _ => cc42 | 43, _ => cc43 | 44, _ => cc44 | 45, _ => cc45 | 46, _ => cc46 | 47, _ => cc47 | (k2 + 48), hk2 => absurd hk2 (by omega)) _ rfl) (by decide) ?_
      exact nxt _ _ (hdf k σ S hk hI)
end LAW4
