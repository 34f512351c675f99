section FEEDS
variable {σ σ' σ1 σ2 : Hp} {S S' : MS} {own : Nat → Nat} {E : Nat} {L : List Nat} {V : Vt} {π : Nat → Nat} {g : Gh} {n : Nat}
theorem bv_byte (b : BitVec 32) (n : Nat) (hn : n ≤ 24) : b.ushiftRight n &&& 255#32 = b.sshiftRight n &&& 255#32 := by
  have z : ∀ i, i < 32 → 8 ≤ i → (255#32).getLsbD i = false := by decide
  apply BitVec.eq_of_getLsbD_eq
  intro i hi
  rw [BitVec.getLsbD_and, BitVec.getLsbD_and]
  by_cases q : i < 8
  · have e1 : (b.ushiftRight n).getLsbD i = b.getLsbD (n + i) := BitVec.getLsbD_ushiftRight b n i
    rw [e1, BitVec.getLsbD_sshiftRight]
    have : ¬ 32 ≤ i := by omega
    have : n + i < 32 := by omega
    simp [*]
  · rw [z i hi (by omega), Bool.and_false, Bool.and_false]
theorem byte24 (x : Int32) : ((x.toUInt32 >>> ((24 : Int32).toUInt32 &&& (31 : Int32).toUInt32)).toInt32 &&& (255 : Int32)) = ((x >>> ((24 : Int32) &&& (31 : Int32))) &&& (255 : Int32)) := Int32.toBitVec_inj.mp (bv_byte x.toBitVec 24 (by omega))
theorem byte16 (x : Int32) : ((x.toUInt32 >>> ((16 : Int32).toUInt32 &&& (31 : Int32).toUInt32)).toInt32 &&& (255 : Int32)) = ((x >>> ((16 : Int32) &&& (31 : Int32))) &&& (255 : Int32)) := Int32.toBitVec_inj.mp (bv_byte x.toBitVec 16 (by omega))
theorem byte8 (x : Int32) : ((x.toUInt32 >>> ((8 : Int32).toUInt32 &&& (31 : Int32).toUInt32)).toInt32 &&& (255 : Int32)) = ((x >>> ((8 : Int32) &&& (31 : Int32))) &&& (255 : Int32)) := Int32.toBitVec_inj.mp (bv_byte x.toBitVec 8 (by omega))
theorem byte0 (x : Int32) : ((x.toUInt32 >>> ((0 : Int32).toUInt32 &&& (31 : Int32).toUInt32)).toInt32 &&& (255 : Int32)) = ((x >>> ((0 : Int32) &&& (31 : Int32))) &&& (255 : Int32)) := Int32.toBitVec_inj.mp (bv_byte x.toBitVec 0 (by omega))
/-- what the state, its past and the last search rest on in the reference -/
def Rac (S S' : MS) : Prop := (∀ j, j = 0 ∨ j = 1 ∨ j = 18 → S'.1 j = S.1 j) ∧ ∀ k, k = 27 ∨ k = 28 ∨ k = 29 ∨ k = 32 ∨ k = 33 → S'.2 k = S.2 k
def Ac (x : Nat) : Prop := 53 ≤ x ∧ x ≤ 59
/-- only commands and replies change -/
theorem Iv.cm (h : Iv σ S E L V π g own) (dn : Dn Ac σ σ') (cm : CM σ' S') (rq : RQ σ' S') (r : Rac S S') : Iv σ' S' E L V π g own := by
  obtain ⟨⟨a1, a2, a3, a4, a5, ⟨rr, q, mo⟩, a7⟩, b, ⟨c1, c2, c3, c4, c5⟩, ⟨d1, d2, d3, d4⟩, m, n, u, w, p, r1, r2⟩ := h
  have d := dn.df
  obtain ⟨⟨s1, s2, s3, s4, s5, s6⟩, -⟩ := dn
  have pe : pt σ' E L = pt σ E L := by unfold pt; rw [s2]
  have ve : pv σ' E L = pv σ E L := by unfold pv; rw [s2]
  have fx : ∀ x, x < 53 → ¬ Ac x := fun x hx q => by unfold Ac at q; omega
  have fo : ∀ x, x < σ.nx → Ac x → own x = x ∧ 53 ≤ x ∧ x ≤ 59 := fun x hx q => by
    unfold Ac at q
    exact ⟨d1.f (by omega) (by omega) (by omega), q⟩
  have fp : ∀ x, Fp 3 E L x → ¬ Ac x := fun x hx q => by
    have := d2 x hx
    have := fo x (Fp.lt a1 a3 hx) q
    omega
  refine ⟨⟨a1.df a3 d fp, a2.df a3 d (fx 23 (by omega)), by unfold Wn; rw [s1, s5]; exact a3, by rw [s5]; exact a4, a5.df a3 d (fun x _ _ => fx x (by omega)), ⟨rr, q, mo.df a3 d (fx 14 (by omega))⟩, a7.df a3 d (fx 2 (by omega))⟩, by rw [r.1 0 (by omega)]; exact b, ⟨c1.df a3 d (fun x _ _ => fx x (by omega)) ⟨r.1 18 (by omega), r.2⟩, c2.df a3 d (fx 33 (by omega)), c3.df c2 a3 d (fx 33 (by omega)), cm, rq⟩, ⟨d1, d2, by rw [s1]; exact d3, by rw [s2]; exact d4⟩, m, n, u, w.df d1 a3 d (fun x hx q => by have := fo x hx q; omega) (fun _ _ => rfl), p.df d1 a3 d (fun x hx q => by have := fo x hx q; omega) (fun _ _ => rfl) ⟨r.1 1 (by omega), fun x _ => by rw [r.1 0 (by omega)]⟩, by omega, by omega⟩
/-- the sheet with its length -/
def CMn (σ : Hp) (S : MS) (n : Nat) : Prop := (σ.kd 53 = 10 ∧ σ.kd 54 = 1 ∧ σ.kd 55 = 1 ∧ σ.kd 56 = 1 ∧ σ.kd 57 = 1) ∧ (σ.ln 54 = 300 ∧ σ.ln 55 = 75 ∧ σ.ln 56 = 75 ∧ σ.ln 57 = 75) ∧ (σ.fr 0 53 = 54 ∧ σ.fr 2 53 = 55 ∧ σ.fr 3 53 = 56 ∧ σ.fr 4 53 = 57) ∧ (n ≤ 300 ∧ σ.fi 1 53 = nI n ∧ S.2 44 = nI n ∧ ∀ i, i < n → σ.ar 54 i = S.1 26 i ∧ S.1 26 i ≠ -1) ∧ σ.fi 6 53 = S.2 45 ∧ ∀ i, i < 62 → S.1 27 i = nmL.getD i 0
theorem CM.len (h : CM σ S) : ∃ n, CMn σ S n := by
  obtain ⟨a, b, c, ⟨n, d⟩, e⟩ := h
  exact ⟨n, a, b, c, d, e⟩
theorem CMn.c (h : CMn σ S n) : CM σ S := ⟨h.1, h.2.1, h.2.2.1, ⟨n, h.2.2.2.1⟩, h.2.2.2.2⟩
theorem and255 (y : Int32) : y &&& (255 : Int32) ≠ -1 := fun h => by
  have e : (y &&& (255 : Int32)) &&& (256 : Int32) = (-1 : Int32) &&& (256 : Int32) := by rw [h]
  rw [Int32.and_assoc, show (255 : Int32) &&& (256 : Int32) = 0 by decide, Int32.and_zero] at e
  exact absurd e (by decide)
/-- one byte more on the sheet -/
theorem CMn.byte (h : CMn σ S n) (hn : n < 300) {v : Int32} (hv : v ≠ -1) : CMn (sfi (saw σ 54 (upd (σ.ar 54) n v)) 1 53 (nI (n + 1))) (pf (up2 S.1 26 n v, S.2) 44 (nI (n + 1))) (n + 1) := by
  obtain ⟨a, b, c, ⟨d1, d2, d3, d4⟩, e, f⟩ := h
  refine ⟨a, b, c, ⟨by omega, by rw [fi_sfi, if_pos ⟨rfl, rfl⟩], pf_s, fun i hi => ?_⟩, ?_, fun i hi => ?_⟩
  · rw [ar_sfi, ar_saw]
    show upd (σ.ar 54) n v i = up2 S.1 26 n v 26 i ∧ up2 S.1 26 n v 26 i ≠ -1
    by_cases z : i = n
    · rw [z, upd_s, up2_s]; exact ⟨rfl, hv⟩
    · rw [upd_n z, up2_i z]; exact d4 i (by omega)
  · rw [fi_sfi, if_neg (by omega), fi_saw, pf_n (by omega)]; exact e
  · show up2 S.1 26 n v 27 i = _
    rw [up2_j (by omega)]; exact f i hi
theorem rac_byte {v w : Int32} {i : Nat} : Rac S (pf (up2 S.1 26 i v, S.2) 44 w) := ⟨fun j hj => up2_r (by omega), fun k hk => pf_n (by omega)⟩
theorem Rac.tr {S1 : MS} (h : Rac S S1) (k : Rac S1 S') : Rac S S' := ⟨fun j hj => (k.1 j hj).trans (h.1 j hj), fun j hj => (k.2 j hj).trans (h.2 j hj)⟩
theorem dn_byte {f : Nat → Int32} {w : Int32} : Dn Ac σ (sfi (saw σ 54 f) 1 53 w) := (Dn.xa ⟨by omega, by omega⟩).xi' ⟨by omega, by omega⟩
/-- one round of the loop on both sides -/
theorem j_round (h : CMn σ S n) (hn : n < 300) {x s t : Int32} (h0 : ¬ s < 0) (hs : s + (-8) = t) (hb : ((x.toUInt32 >>> (s.toUInt32 &&& (31 : Int32).toUInt32)).toInt32 &&& (255 : Int32)) = ((x >>> (s &&& (31 : Int32))) &&& (255 : Int32))) (F F' : Nat) : ∃ σ1 S1, kX0_addFour_3 (F + 1) 53 x s σ = kX0_addFour_3 F 53 x t σ1 ∧ r_four_3 (F' + 1) x s S = r_four_3 F' x t S1 ∧ CMn σ1 S1 (n + 1) ∧ Dn Ac σ σ1 ∧ Rac S S1 ∧ (∀ j, j ≠ 26 → S1.1 j = S.1 j) ∧ (∀ k, k ≠ 44 → S1.2 k = S.2 k) ∧ (∀ x, x ≠ 53 → x ≠ 54 → (∀ i, σ1.fi i x = σ.fi i x) ∧ σ1.ar x = σ.ar x) := by
  obtain ⟨a, b, c, ⟨d1, d2, d3, d4⟩, e, f⟩ := id h
  refine ⟨_, _, ?_, ?_, h.byte hn (v := (x >>> (s &&& (31 : Int32))) &&& (255 : Int32)) (and255 _), dn_byte, rac_byte, fun j hj => up2_r hj, fun k hk => pf_n hk, fun y h1 h2 => ⟨fun i => by rw [fi_sfi, if_neg (fun q => h1 q.2), fi_saw], by rw [ar_sfi, ar_saw_ne h2]⟩⟩
  · show (if s < 0 then _ else _) = _
    have k : (saw σ 54 (upd (σ.ar 54) n ((x >>> (s &&& (31 : Int32))) &&& (255 : Int32)))).kd 53 = 10 := a.1
    rw [if_neg h0, gfi_ok a.1, bind_s, d2, show (300 : Int32) = nI 300 from rfl, if_neg (nI_ge hn (by omega)), gfr_ok a.1, bind_s, c.1, bind_s, hb, ast_saw a.2.1 (by omega) (by omega), bind_s, gfi_ok k, bind_s, fi_saw, d2, nI_1, pfi_ok k, bind_s, hs]
  · show (if s < 0 then _ else _) = _
    rw [if_neg h0, d3, wr_ok (show n < m_len 26 by rw [show m_len 26 = 300 from rfl]; exact hn) (by omega), bind_s]
    show r_four_3 F' x (s + -8) (pf (up2 S.1 26 n _, S.2) 44 (S.2 44 + 1)) = _
    rw [d3, nI_1, hs]
theorem j_four (h : CMn σ S n) (hn : n + 4 ≤ 300) (x : Int32) : ∃ σ1 S1, kX0_addFour σ 53 x = some σ1 ∧ r_four S x = some S1 ∧ CMn σ1 S1 (n + 4) ∧ Dn Ac σ σ1 ∧ Rac S S1 ∧ (∀ j, j ≠ 26 → S1.1 j = S.1 j) ∧ (∀ k, k ≠ 44 → S1.2 k = S.2 k) ∧ (∀ x, x ≠ 53 → x ≠ 54 → (∀ i, σ1.fi i x = σ.fi i x) ∧ σ1.ar x = σ.ar x) := by
  have e : FU = 999995 + 5 := rfl
  unfold kX0_addFour r_four
  rw [e]
  obtain ⟨σ1, S1, a1, b1, c1, d1, e1, f1, g1, i1⟩ := j_round h (by omega) (x := x) (s := 24) (t := 16) (by decide) (by decide) (byte24 x) (999995 + 4) (999995 + 4)
  obtain ⟨σ2, S2, a2, b2, c2, d2, e2, f2, g2, i2⟩ := j_round c1 (by omega) (x := x) (s := 16) (t := 8) (by decide) (by decide) (byte16 x) (999995 + 3) (999995 + 3)
  obtain ⟨σ3, S3, a3, b3, c3, d3, e3, f3, g3, i3⟩ := j_round c2 (by omega) (x := x) (s := 8) (t := 0) (by decide) (by decide) (byte8 x) (999995 + 2) (999995 + 2)
  obtain ⟨σ4, S4, a4, b4, c4, d4, e4, f4, g4, i4⟩ := j_round c3 (by omega) (x := x) (s := 0) (t := -8) (by decide) (by decide) (byte0 x) (999995 + 1) (999995 + 1)
  refine ⟨σ4, S4, ?_, ?_, c4, ((d1.tr d2).tr d3).tr d4, ((e1.tr e2).tr e3).tr e4, fun j hj => by rw [f4 j hj, f3 j hj, f2 j hj, f1 j hj], fun k hk => by rw [g4 k hk, g3 k hk, g2 k hk, g1 k hk], fun y h1 h2 => ⟨fun i => by rw [(i4 y h1 h2).1, (i3 y h1 h2).1, (i2 y h1 h2).1, (i1 y h1 h2).1], by rw [(i4 y h1 h2).2, (i3 y h1 h2).2, (i2 y h1 h2).2, (i1 y h1 h2).2]⟩⟩
  · rw [show (999995 + 5 : Nat) = 999995 + 4 + 1 from rfl, a1, show (999995 + 4 : Nat) = 999995 + 3 + 1 from rfl, a2, show (999995 + 3 : Nat) = 999995 + 2 + 1 from rfl, a3, show (999995 + 2 : Nat) = 999995 + 1 + 1 from rfl, a4]
    rfl
  · rw [show (999995 + 5 : Nat) = 999995 + 4 + 1 from rfl, b1, show (999995 + 4 : Nat) = 999995 + 3 + 1 from rfl, b2, show (999995 + 3 : Nat) = 999995 + 2 + 1 from rfl, b3, show (999995 + 2 : Nat) = 999995 + 1 + 1 from rfl, b4]
    rfl
end FEEDS
