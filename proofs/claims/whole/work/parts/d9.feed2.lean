section FEED2
variable {σ σ' σ1 σ2 : Hp} {S S' : MS} {own : Nat → Nat} {E : Nat} {L : List Nat} {V : Vt} {π : Nat → Nat} {g : Gh} {n : Nat}
theorem RQ.k (h : RQ σ S) (dn : Dn Ac σ σ') (e58 : ∀ i, σ'.fi i 58 = σ.fi i 58) (e59 : σ'.ar 59 = σ.ar 59) (r29 : S'.1 29 = S.1 29) (r52 : S'.2 52 = S.2 52) : RQ σ' S' := by
  obtain ⟨⟨a1, a2, a3, a4⟩, m, b1, b2, b3, b4⟩ := h
  obtain ⟨⟨s1, s2, s3, -⟩, -⟩ := dn
  exact ⟨⟨by rw [s1]; exact a1, by rw [s1]; exact a2, by rw [s2]; exact a3, by rw [s3]; exact a4⟩, m, b1, (e58 _).trans b2, r52.trans b3, fun i hi => by rw [e59, r29]; exact b4 i hi⟩
/-- four bytes more, with all that lasts -/
def Q4 (σ : Hp) (S : MS) (n : Nat) (σ1 : Hp) (S1 : MS) : Prop := CMn σ1 S1 n ∧ Dn Ac σ σ1 ∧ Rac S S1 ∧ (∀ j, j ≠ 26 → S1.1 j = S.1 j) ∧ (∀ k, k ≠ 44 → S1.2 k = S.2 k) ∧ (∀ x, x ≠ 53 → x ≠ 54 → (∀ i, σ1.fi i x = σ.fi i x) ∧ σ1.ar x = σ.ar x)
theorem Q4.go {m : Nat} (h : Q4 σ S n σ1 S') (hn : n + 4 ≤ 300) (hm : m = n + 4) (x : Int32) : ∃ σ2 S2, kX0_addFour σ1 53 x = some σ2 ∧ r_four S' x = some S2 ∧ Q4 σ S m σ2 S2 := by
  obtain ⟨a1, a2, a3, a4, a5, a6⟩ := h
  obtain ⟨σ2, S2, b1, b2, c1, c2, c3, c4, c5, c6⟩ := j_four a1 hn x
  rw [hm]
  exact ⟨σ2, S2, b1, b2, c1, a2.tr c2, a3.tr c3, fun j hj => (c4 j hj).trans (a4 j hj), fun k hk => (c5 k hk).trans (a5 k hk), fun y h1 h2 => ⟨fun i => ((c6 y h1 h2).1 i).trans ((a6 y h1 h2).1 i), (c6 y h1 h2).2.trans (a6 y h1 h2).2⟩⟩
theorem Lk.dn (h : Lk σ) (d : Dn Ac σ σ1) : Lk σ1 := by
  unfold Lk
  rw [d.1.1, d.1.2.2.1]
  exact h
theorem ls_feed : LS_feed In := fun n σ S x1 x2 x3 x4 x5 _ ⟨E, L, V, π, g, own, h⟩ => by
  obtain ⟨c1, c2, c3, c4, c5⟩ := id h.2.2.1
  obtain ⟨m, cm⟩ := c4.len
  have h0 : Q4 σ S m σ S := ⟨cm, ⟨⟨rfl, rfl, rfl, rfl, rfl, rfl⟩, fun x _ => ⟨fun _ => rfl, rfl⟩⟩, ⟨fun _ _ => rfl, fun _ _ => rfl⟩, fun _ _ => rfl, fun _ _ => rfl, fun _ _ _ => ⟨fun _ => rfl, rfl⟩⟩
  have lm := cm.2.2.2.1.1
  have l44 := cm.2.2.2.1.2.2.1
  unfold kX11_feed r_feed kX0_hasRoom
  rw [h.lk.f8, bind_s, ckd_ok cm.1.1, gfi_ok cm.1.1, bind_s, cm.2.2.2.1.2.1, l44, show (20 : Int32) = nI 20 from rfl, nI_add, show (300 : Int32) = nI 300 from rfl]
  by_cases q : m + 20 ≤ 300
  · obtain ⟨σ1, S1, a1, b1, q1⟩ := h0.go (m := m + 4) (by omega) rfl x1
    obtain ⟨σ2, S2, a2, b2, q2⟩ := q1.go (m := m + 8) (by omega) (by omega) x2
    obtain ⟨σ3, S3, a3, b3, q3⟩ := q2.go (m := m + 12) (by omega) (by omega) x3
    obtain ⟨σ4, S4, a4, b4, q4⟩ := q3.go (m := m + 16) (by omega) (by omega) x4
    obtain ⟨σ5, S5, a5, b5, q5⟩ := q4.go (m := m + 20) (by omega) (by omega) x5
    have i : Iv σ5 S5 E L V π g own := h.cm q5.2.1 q5.1.c (c5.k q5.2.1 (q5.2.2.2.2.2 58 (by omega) (by omega)).1 (q5.2.2.2.2.2 59 (by omega) (by omega)).2 (q5.2.2.2.1 29 (by omega)) (q5.2.2.2.2.1 52 (by omega))) q5.2.2.1
    refine ⟨nI (m + 20), σ5, S5, ?_, ?_, i.in⟩
    · rw [if_neg (by rw [nI_ltI (by omega) (by omega)]; omega), show zb 1 = some 1 from rfl, bind_s, if_neg (show ¬ (1 : Int32) = 0 by decide), bind_s, ckd_ok cm.1.1, a1, bind_s, (h.lk.dn q1.2.1).f8, bind_s, ckd_ok q1.1.1.1, a2, bind_s, (h.lk.dn q2.2.1).f8, bind_s, ckd_ok q2.1.1.1, a3, bind_s, (h.lk.dn q3.2.1).f8, bind_s, ckd_ok q3.1.1.1, a4, bind_s, (h.lk.dn q4.2.1).f8, bind_s, ckd_ok q4.1.1.1, a5, bind_s, (h.lk.dn q5.2.1).f8, bind_s, gfi_ok q5.1.1.1, bind_s, q5.1.2.2.2.1.2.1]
    · rw [if_pos (by rw [nI_leI (by omega) (by omega)]; exact q), b1, bind_s, b2, bind_s, b3, bind_s, b4, bind_s, b5, bind_s, q5.1.2.2.2.1.2.2.1]
  · refine ⟨-1, σ, S, ?_, ?_, h.in⟩
    · rw [if_pos (by rw [nI_ltI (by omega) (by omega)]; omega)]; rfl
    · rw [if_neg (by rw [nI_leI (by omega) (by omega)]; omega)]
theorem ls_end : LS_end In := fun n σ S x _ ⟨E, L, V, π, g, own, h⟩ => by
  obtain ⟨c1, c2, c3, c4, c5⟩ := id h.2.2.1
  obtain ⟨m, cm⟩ := c4.len
  have lm := cm.2.2.2.1.1
  have l44 := cm.2.2.2.1.2.2.1
  unfold kX11_end r_end
  rw [r_isIn_b, bind_s, l44]
  by_cases q : (0 : Int32) ≤ x ∧ x ≤ nI m
  · obtain ⟨t, -, ht, rfl⟩ := rng (a := 0) (b := m) (by omega) (by omega) q
    have dn : Dn Ac σ (sfi σ 1 53 (nI t)) := Dn.xi ⟨by omega, by omega⟩
    have i : Iv (sfi σ 1 53 (nI t)) (pf S 44 (nI t)) E L V π g own := by
      refine h.cm dn (CMn.c (n := t) ?_) (c5.k dn (fun i => by rw [fi_sfi, if_neg (by omega)]) (by rw [ar_sfi]) rfl (pf_n (by omega))) ⟨fun _ _ => rfl, fun k hk => pf_n (by omega)⟩
      obtain ⟨a, b, c, ⟨d1, d2, d3, d4⟩, e, f⟩ := cm
      exact ⟨a, b, c, ⟨by omega, by rw [fi_sfi, if_pos ⟨rfl, rfl⟩], pf_s, fun i hi => d4 i (by omega)⟩, by rw [fi_sfi, if_neg (by omega), pf_n (by omega)]; exact e, f⟩
    refine ⟨nI t, _, _, ?_, ?_, i.in⟩
    · rw [if_neg (Int32.not_lt.mpr q.1), h.lk.f8, bind_s, gfi_ok cm.1.1, bind_s, cm.2.2.2.1.2.1, if_pos q.2, bind_s, pfi_ok cm.1.1, bind_s]
    · rw [bI_t q, if_neg (show ¬ (1 : Int32) = 0 by decide)]
  · refine ⟨-1, σ, S, ?_, ?_, h.in⟩
    · by_cases z : x < 0
      · rw [if_pos z]
      · rw [if_neg z, h.lk.f8, bind_s, gfi_ok cm.1.1, bind_s, cm.2.2.2.1.2.1, if_neg (fun y => q ⟨Int32.not_lt.mp z, y⟩)]
    · rw [bI_f q, if_pos rfl]
end FEED2
