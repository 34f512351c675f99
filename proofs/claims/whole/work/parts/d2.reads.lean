section READS
variable {σ σ' : Hp} {S S' : MS} {own : Nat → Nat} {E : Nat} {L : List Nat} {V : Vt} {π : Nat → Nat} {g : Gh}
theorem Iv.m6 (h : Iv σ S E L V π g own) : σ.fi 706 3 = nI V.M := h.1.1.1.2.2.2.1.2.2.1
theorem Iv.mo (h : Iv σ S E L V π g own) : ∃ r q, Mo σ r q := h.1.2.2.2.2.2.1
theorem Iv.k14 (h : Iv σ S E L V π g own) : σ.kd 14 = 12 := by obtain ⟨r, q, m⟩ := h.mo; exact m.1.1
theorem Iv.k38 (h : Iv σ S E L V π g own) : σ.kd 38 = 14 := by
  obtain ⟨m, n, u, w, ⟨K, SS, IS, EK, ES, EI, eo, lo, vo, p1, -⟩, -⟩ := h.2.2.2.2
  exact p1.1.1
theorem Iv.in (h : Iv σ S E L V π g own) {n : Nat} : In n σ S := ⟨E, L, V, π, g, own, h⟩
theorem ls_is : LS_is In := fun n σ S x _ ⟨E, L, V, π, g, own, h⟩ => by
  obtain ⟨r, T, a, b, c⟩ := j_is h.jc x
  exact ⟨r, T, a, b, (h.rk c.rk).in⟩
theorem ls_word : LS_word In := fun n σ S x _ ⟨E, L, V, π, g, own, h⟩ => by
  obtain ⟨r, a, b⟩ := j_word h.bv h.lk x
  exact ⟨r, a, b, h.in⟩
theorem ls_thing : LS_thing In := fun n σ S x _ ⟨E, L, V, π, g, own, h⟩ => by
  obtain ⟨r, a, b⟩ := j_thing h.bv h.lk h.k14 x
  exact ⟨r, a, b, h.in⟩
theorem ls_letters : LS_letters In := fun n σ S x _ ⟨E, L, V, π, g, own, h⟩ => by
  obtain ⟨r, a, b⟩ := j_letters h.lk h.k14 x
  exact ⟨r, a, b, h.in⟩
theorem ls_apart : LS_apart In := fun n σ S x y _ ⟨E, L, V, π, g, own, h⟩ => by
  obtain ⟨r, q, mo⟩ := h.mo
  obtain ⟨v, σ1, T, r', q', a, b, c, d, e⟩ := j_apart h.bv h.lk mo h.m6 x y
  exact ⟨v, σ1, T, a, b, (h.mr c ⟨r', q', d⟩ e.rk).in⟩
theorem ls_far : LS_far In := fun n σ S x y _ ⟨E, L, V, π, g, own, h⟩ => by
  obtain ⟨r, T, a, b, c⟩ := j_far h.bv h.lk x y
  exact ⟨r, T, a, b, (h.rk c.rk).in⟩
theorem ls_page : LS_page In := fun n σ S x y _ ⟨E, L, V, π, g, own, h⟩ => by
  obtain ⟨E8, O, wl, o8⟩ := h.wl
  obtain ⟨r, σ', S', a, b, c, d⟩ := j_page h.jc wl x y
  obtain ⟨own', i⟩ := h.wk wl o8 c Sm.rfl (by rw [d.r0]; exact h.2.1.1) h.2.1.2.2.1 (Ry.rk d)
  exact ⟨r, σ', S', a, b, i.in⟩
theorem ls_entry : LS_entry In := fun n σ S x y z _ ⟨E, L, V, π, g, own, h⟩ => by
  obtain ⟨E8, O, wl, o8⟩ := h.wl
  obtain ⟨r, σ', S', a, b, c, d⟩ := j_entry h.jc wl x y z
  obtain ⟨own', i⟩ := h.wk wl o8 c Sm.rfl (by rw [d.r0]; exact h.2.1.1) h.2.1.2.2.1 (Ry.rk d)
  exact ⟨r, σ', S', a, b, i.in⟩
theorem ls_leafOf : LS_leafOf In := fun n σ S x _ ⟨E, L, V, π, g, own, h⟩ => by
  obtain ⟨E8, O, wl, o8⟩ := h.wl
  obtain ⟨r, σ', S', a, b, c, d⟩ := j_leafOf h.jc h.bv wl x
  obtain ⟨own', i⟩ := h.wk wl o8 c Sm.rfl (by rw [d.r0]; exact h.2.1.1) h.2.1.2.2.1 (Ry.rk d)
  exact ⟨r, σ', S', a, b, i.in⟩
theorem ls_covers : LS_covers In := fun n σ S _ ⟨E, L, V, π, g, own, h⟩ => by
  obtain ⟨E8, O, wl, o8⟩ := h.wl
  obtain ⟨r, σ', S', a, b, c, d⟩ := j_covers h.jc wl
  obtain ⟨own', i⟩ := h.wk wl o8 c Sm.rfl (by rw [d.r0]; exact h.2.1.1) h.2.1.2.2.1 (Ry.rk d)
  exact ⟨r, σ', S', a, b, i.in⟩
theorem ls_within : LS_within In := fun n σ S x y z _ ⟨E, L, V, π, g, own, h⟩ => by
  obtain ⟨r, σ', S', a, b, c⟩ := j_withinC h.jc h.2.2.1.1.1 x y z
  exact ⟨r, σ', S', a, b, (h.sd c).in⟩
theorem ls_around : LS_around In := fun n σ S x y z _ ⟨E, L, V, π, g, own, h⟩ => by
  obtain ⟨r, σ', S', a, b, c⟩ := j_aroundC h.jc h.bv h.2.2.1.1.1 x y z
  exact ⟨r, σ', S', a, b, (h.sd c).in⟩
theorem ls_near : LS_near In := fun n σ S x y z _ ⟨E, L, V, π, g, own, h⟩ => by
  obtain ⟨r, σ', S', a, b, c⟩ := j_nearC h.jc h.2.2.1.1.1 x y z
  exact ⟨r, σ', S', a, b, (h.sd c).in⟩
theorem ls_beside : LS_beside In := fun n σ S x y z _ ⟨E, L, V, π, g, own, h⟩ => by
  obtain ⟨r, σ', S', a, b, c⟩ := j_besideC h.jc h.bv h.2.2.1.1.1 x y z
  exact ⟨r, σ', S', a, b, (h.sd c).in⟩
theorem ls_farthest : LS_farthest In := fun n σ S x y z _ ⟨E, L, V, π, g, own, h⟩ => by
  obtain ⟨r, σ', S', a, b, c⟩ := j_farthestC h.jc h.2.2.1.1.1 x y z
  exact ⟨r, σ', S', a, b, (h.sd c).in⟩
theorem ls_cost : LS_cost In := fun n σ S x _ ⟨E, L, V, π, g, own, h⟩ => by
  obtain ⟨r, a, b⟩ := j_costC h.2.2.1.1 h.lk x
  exact ⟨r, a, b, h.in⟩
theorem ls_scan : LS_scan In := fun n σ S x y _ ⟨E, L, V, π, g, own, h⟩ => by
  obtain ⟨r, q, mo⟩ := h.mo
  obtain ⟨v, σ1, T, a, b, c, d, e⟩ := j_scan h.bv h.lk mo h.m6 x y
  exact ⟨v, σ1, T, a, b, (h.mr c d e.rk).in⟩
theorem ls_broken : LS_broken In := fun n σ S x _ ⟨E, L, V, π, g, own, h⟩ => by
  obtain ⟨r, σ1, T, a, b, c, d⟩ := j_broken h.bv h.lk x
  exact ⟨r, σ1, T, a, b, (h.sv c d).in⟩
theorem ls_breaks : LS_breaks In := fun n σ S x y _ ⟨E, L, V, π, g, own, h⟩ => by
  obtain ⟨r, σ1, T, a, b, c, d⟩ := j_breaks h.bv h.lk x y
  exact ⟨r, σ1, T, a, b, (h.sv c d).in⟩
theorem ls_pair : LS_pair In := fun n σ S x _ ⟨E, L, V, π, g, own, h⟩ => by
  obtain ⟨r, T, a, b, c⟩ := j_pair2 h.bv h.lk x
  exact ⟨r, T, a, b, (h.rk c.rk).in⟩
theorem ls_couple : LS_couple In := fun n σ S x y _ ⟨E, L, V, π, g, own, h⟩ => by
  obtain ⟨r, T, a, b, c⟩ := j_couple2 h.bv h.lk x y
  exact ⟨r, T, a, b, (h.rk c.rk).in⟩
theorem ls_spaced : LS_spaced In := fun n σ S x _ ⟨E, L, V, π, g, own, h⟩ => by
  obtain ⟨r, T, a, b, c⟩ := j_spaced2 h.bv h.lk x
  exact ⟨r, T, a, b, (h.rk c.rk).in⟩
theorem ls_lonely : LS_lonely In := fun n σ S _ ⟨E, L, V, π, g, own, h⟩ => by
  obtain ⟨r, T, a, b, c⟩ := j_lonely h.bv h.lk
  exact ⟨r, T, a, b, (h.rk c.rk).in⟩
theorem ls_pivot : LS_pivot In := fun n σ S x _ ⟨E, L, V, π, g, own, h⟩ => by
  obtain ⟨r, σ1, T, a, b, c, d⟩ := j_pivot2 h.bv h.2.2.1.2.2.1 h.lk x
  exact ⟨r, σ1, T, a, b, (h.sv c d).in⟩
theorem ls_letter : LS_letter In := fun n σ S x y _ ⟨E, L, V, π, g, own, h⟩ => by
  obtain ⟨r, q, mo⟩ := h.mo
  obtain ⟨v, σ1, a, b, c, d⟩ := j_letter h.bv h.lk mo x y
  exact ⟨v, σ1, a, b, (h.mr c ⟨r, q, d⟩ Rk.rfl).in⟩
theorem ls_middle : LS_middle In := fun n σ S _ ⟨E, L, V, π, g, own, h⟩ => by
  obtain ⟨r, T, a, b, c⟩ := j_middle h.bv h.lk
  exact ⟨r, T, a, b, (h.rk c.rk).in⟩
theorem ls_groups : LS_groups In := fun n σ S x y _ ⟨E, L, V, π, g, own, h⟩ => by
  obtain ⟨r, σ1, T, a, b, c, d⟩ := j_groups h.bv h.2.2.1.2.2.1 h.lk x y
  exact ⟨r, σ1, T, a, b, (h.sv c d).in⟩
theorem ls_chain : LS_chain In := fun n σ S x y _ ⟨E, L, V, π, g, own, h⟩ => by
  obtain ⟨r, σ1, T, a, b, c, d⟩ := j_chain2 h.bv h.2.2.1.2.2.1 h.lk x y
  exact ⟨r, σ1, T, a, b, (h.sv c d).in⟩
theorem ls_chainLong : LS_chainLong In := fun n σ S x _ ⟨E, L, V, π, g, own, h⟩ => by
  obtain ⟨r, σ1, T, a, b, c, d⟩ := j_chainLong h.bv h.2.2.1.2.2.1 h.lk x
  exact ⟨r, σ1, T, a, b, (h.sv c d).in⟩
theorem ls_mean : LS_mean In := fun n σ S _ ⟨E, L, V, π, g, own, h⟩ => by
  obtain ⟨r, T, a, b, c⟩ := j_mean h.bv.1 h.bv.2.1.w h.2.1.2.1 h.lk.1 h.lk.2.1 h.lk.2.2.2.2.2.2.2.1
  exact ⟨r, T, a, b, (h.rk c.rk).in⟩
theorem ls_steps : LS_steps In := fun n σ S _ ⟨E, L, V, π, g, own, h⟩ => by
  obtain ⟨m, n, u, w, ⟨K, SS, IS, EK, ES, EI, eo, lo, vo, p1, p2, p3, p4⟩, -⟩ := h.2.2.2.2
  refine ⟨nI SS.length, ?_, ?_, h.in⟩
  · unfold kX11_steps kX4_countSteps
    simp only [h.lk.f7, gfr_ok p1.1.1, p1.1.2.2.1, bind_s, ckd_ok p1.1.1, ckd_ok p1.2.1.2.1.1.1, p1.2.1.2.1.size]
  · unfold r_steps
    rw [show (0 : Int32) = nI 0 from rfl, rd_r0 (by omega), bind_s, p2.1.2.1]
theorem ls_fault : LS_fault In := fun n σ S _ ⟨E, L, V, π, g, own, h⟩ => by
  obtain ⟨-, -, -, cm, -⟩ := h.2.2.1
  refine ⟨S.2 45, ?_, rfl, h.in⟩
  unfold kX11_fault
  rw [h.lk.f8, bind_s, gfi_ok cm.1.1, bind_s, cm.2.2.2.2.1]
theorem ls_reply : LS_reply In := fun n σ S x _ ⟨E, L, V, π, g, own, h⟩ => by
  obtain ⟨-, -, -, -, ⟨r1, r2, r3, r4⟩, n, r5, r6, r7, r8⟩ := h.2.2.1
  unfold kX11_reply r_reply
  by_cases q : x = -1
  · refine ⟨nI n, ?_, ?_, h.in⟩
    · rw [if_pos q, h.lk.f9, bind_s, gfi_ok r1, bind_s, r6]
    · rw [if_pos q, r7]
  rw [if_neg q, if_neg q]
  rcases i_or x with z | ⟨t, t1, t2⟩
  · refine ⟨-1, by rw [if_pos z], ?_, h.in⟩
    rw [r_isIn_b, bind_s, bI_f (fun y => absurd y.1 (Int32.not_le.mpr z)), if_pos rfl]
  · subst t2
    have nn : ¬ nI t < 0 := by rw [show (0 : Int32) = nI 0 from rfl, nI_ltI (by omega) (by omega)]; omega
    rw [if_neg nn, h.lk.f9, bind_s, gfi_ok r1, bind_s, r6, r7, bind_s, r_isIn_b, bind_s]
    by_cases y : t < n
    · refine ⟨S.1 29 t, ?_, ?_, h.in⟩
      · rw [if_neg (by rw [nI_leI (by omega) (by omega)]; omega), gfr_ok r1, bind_s, r4, ald_ok r2 (by omega) (by omega), bind_s, r8 t y]
      · have : (0 : Int32) ≤ nI t ∧ nI t ≤ nI n - 1 := (in_iff (by omega) _).mpr ⟨t, y, rfl⟩
        rw [bI_t this, if_neg (by decide), rd_ok (show t < m_len 29 by rw [show m_len 29 = 400 from rfl]; omega) (by omega), bind_s]
    · refine ⟨-1, ?_, ?_, h.in⟩
      · rw [if_pos (by rw [nI_leI (by omega) (by omega)]; omega)]
      · have : ¬ ((0 : Int32) ≤ nI t ∧ nI t ≤ nI n - 1) := fun k => by
          obtain ⟨i, i1, i2⟩ := (in_iff (by omega) _).mp k
          rw [nI_eq (by omega) (by omega)] at i2
          omega
        rw [bI_f this, if_pos rfl]
theorem ls_tight : LS_tight In := fun n σ S _ ⟨E, L, V, π, g, own, h⟩ => by
  obtain ⟨σ1, S1, own1, k1, k2, h1, -, -⟩ := h.keep
  obtain ⟨E8, O, wl, o8⟩ := h1.wl
  obtain ⟨r, σ', S', V1, a, b, c, d, e, f, y⟩ := j_tighten h1.jc wl
  obtain ⟨own', i⟩ := h1.wk wl o8 c f d e y
  refine ⟨r, σ', S', ?_, ?_, i.in⟩
  · unfold kX11_tight
    rw [h.lk.f7, bind_s, h.lk.f0, bind_s, ckd_ok h.k38, k1, bind_s, h1.lk.f4, bind_s, ckd_ok wl.1.1, a, bd2_s]
  · unfold r_tight
    rw [k2, bind_s, b]
end READS
