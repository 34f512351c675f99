section TELLS
variable {σ σ1 : Hp} {S S' : MS} {own : Nat → Nat} {E : Nat} {L : List Nat} {V V1 : Vt} {π : Nat → Nat} {g : Gh}
theorem c_toldAt_2 (h : Hd σ 3 V) (l16 : V.T.length ≤ 16) (hT : ∀ e ∈ V.T, e.1 < 40 ∧ e.2.1 < 40) {a b : Nat} (ha : a < 2 ^ 31) (hb : b < 2 ^ 31) : ∀ (T : List Ent) (F i : Nat), T.length < F → (∀ (k : Nat) (e : Ent), T[k]? = some e → V.T[i + k]? = some e) → i + T.length = V.T.length → kX7_toldAt_2 σ F 3 (nI a) (nI b) (nI i) = some (o2i ((tp T a b).map (· + i)))
  | T, 0, _, h, _, _ => absurd h (Nat.not_lt_zero _)
  | [], F + 1, i, _, _, hi => by
    unfold kX7_toldAt_2
    rw [gfi_ok h.1.1, bind_s, h.2.2.2.1.2.1, if_pos (by rw [nI_leI (by omega) (by have : i = V.T.length := hi; omega)]; exact Nat.le_of_eq hi.symm)]
    rfl
  | e :: T, F + 1, i, hF, hk, hi => by
    have l1 : i + (T.length + 1) = V.T.length := hi
    have l2 : T.length + 1 < F + 1 := hF
    have he := hk 0 e rfl
    obtain ⟨q1, q2, -⟩ := h.2.2.2.2.2 i e he
    have m40 := hT e (List.mem_of_getElem? he)
    have k5 : σ.kd 5 = 1 := h.1.2.2.1
    have k6 : σ.kd 6 = 1 := h.1.2.2.2.1
    have n5 : σ.ln 5 = 16 := h.2.1.2.1
    have n6 : σ.ln 6 = 16 := h.2.1.2.2.1
    have f2 : σ.fr 702 3 = 5 := h.2.2.1.2.1
    have f3 : σ.fr 703 3 = 6 := h.2.2.1.2.2.1
    have q1 : σ.ar 5 i = nI e.1 := q1
    have q2 : σ.ar 6 i = nI e.2.1 := q2
    have step : kX7_toldAt_32 σ (kX7_toldAt_2 σ F) 3 (nI a) (nI b) (nI i) = some (o2i (((tp T a b).map (· + 1)).map (· + i))) := by
      unfold kX7_toldAt_32
      rw [nI_1, c_toldAt_2 h l16 hT ha hb T F (i + 1) (by omega) (fun k f hf => by
        have := hk (k + 1) f hf
        rw [show i + 1 + k = i + (k + 1) by omega]; exact this) (by omega)]
      cases tp T a b with
      | none => rfl
      | some k => show some (nI (k + (i + 1))) = some (nI (k + 1 + i)); rw [show k + (i + 1) = k + 1 + i by omega]
    unfold kX7_toldAt_2 tp
    rw [gfi_ok h.1.1, bind_s, h.2.2.2.1.2.1, if_neg (by rw [nI_leI (by omega) (by omega)]; omega), gfr_ok h.1.1, bind_s, f2, ald_ok k5 (by omega) (by omega), bind_s, q1, gfr_ok h.1.1, bind_s, f3, ald_ok k6 (by omega) (by omega), bind_s, q2, step]
    by_cases z1 : e.1 = a
    · rw [if_pos (by rw [z1])]
      by_cases z2 : e.2.1 = b
      · rw [if_pos (by rw [z2]), if_pos ⟨z1, z2⟩]
        show some (nI i) = some (nI (0 + i))
        rw [Nat.zero_add]
      · rw [if_neg (by rw [nI_eq (by omega) hb]; exact z2), if_neg (fun y => z2 y.2)]
    · rw [if_neg (by rw [nI_eq (by omega) ha]; exact z1), if_neg (fun y => z1 y.1)]
/-- a told one is noted: at a place that is taken, or behind -/
theorem c_note (h : St σ 3 E L V) (l16 : V.T.length ≤ 16) {a b f : Nat} : (∀ k, k < V.T.length → ∃ s, kX7_noteTold σ 3 (nI k) (nI a) (nI b) (nI f) = some s ∧ St s 3 E L (V.sT (V.T.set k (a, b, f))) ∧ Dn Ah σ s) ∧ (V.T.length < 16 → ∃ s, kX7_noteTold σ 3 (-1) (nI a) (nI b) (nI f) = some s ∧ St s 3 E L (V.sT (V.T ++ [(a, b, f)])) ∧ Dn Ah σ s) := by
  obtain ⟨⟨d1, d2, d3, d4, d5⟩, ⟨d6, d7, d8, d9⟩, ⟨d10, d11, d12, d13, d14⟩, ⟨d15, d16, d17, d18⟩, d19, d20⟩ := id h.1
  refine ⟨fun k hk => ?_, fun hl => ?_⟩
  · obtain ⟨s, g1, g2, g3, g4, g5, g6, g7⟩ := c_setTold h.1.h3 (k := k) (e := (a, b, f)) (by omega)
    refine ⟨s, ?_, h.hd g2 (by rw [g3]) (by rw [g3]) (h.1.dn g2 ⟨by rw [g3]; exact d15, ?_, by rw [g3]; exact d17, by rw [g3]; exact d18⟩ (fun t ht => by rw [g4]; exact d19 t ht) (fun i e he => ?_)) rfl rfl rfl, g2⟩
    · unfold kX7_noteTold
      rw [if_neg (fun y => (nI_m1 (by omega)).mp y), ckd_ok d1]
      have g1 : kX7_setTold σ 3 (nI k) (nI a) (nI b) (nI f) = some s := g1
      rw [g1, bind_s]
    · rw [g3, d16]
      show nI V.T.length = nI (V.T.set k (a, b, f)).length
      rw [List.length_set]
    · have he : (V.T.set k (a, b, f))[i]? = some e := he
      rw [g5, g6, g7]
      by_cases z : i = k
      · subst z
        rw [List.getElem?_set_self hk] at he
        cases he
        rw [upd_s, upd_s, upd_s]
        exact ⟨rfl, rfl, rfl⟩
      · rw [List.getElem?_set_ne (fun y => z y.symm)] at he
        rw [upd_n z, upd_n z, upd_n z]
        exact d20 i e he
  · obtain ⟨s, g1, g2, g3, g4, g5, g6, g7⟩ := c_setTold h.1.h3 (k := V.T.length) (e := (a, b, f)) (by omega)
    have ks : s.kd 3 = 17 := by rw [g2.1.1]; exact d1
    have g8 : Dn Ah σ (sfi s 705 3 (nI (V.T.length + 1))) := g2.xi' Ah3
    refine ⟨sfi s 705 3 (nI (V.T.length + 1)), ?_, h.hd g8 ?_ ?_ (h.1.dn g8 ⟨?_, ?_, ?_, ?_⟩ (fun t ht => ?_) (fun i e he => ?_)) rfl rfl rfl, g8⟩
    · unfold kX7_noteTold
      have g1 : kX7_setTold σ 3 (nI V.T.length) (nI a) (nI b) (nI f) = some s := g1
      rw [if_pos rfl, gfi_ok d1, bind_s, bind_s, d16, show (16 : Int32) = nI 16 from rfl, if_neg (nI_ge hl (by omega)), ckd_ok d1, g1, bind_s, gfi_ok ks, bind_s, g3, d16, nI_1, pfi_ok ks, bind_s]
    · rw [fi_sfi, if_neg (by omega), g3]
    · rw [fi_sfi, if_neg (by omega), g3]
    · rw [fi_sfi, if_neg (by omega), g3]; exact d15
    · rw [fi_sfi, if_pos ⟨rfl, rfl⟩]
      show nI (V.T.length + 1) = nI (V.T ++ [(a, b, f)]).length
      rw [List.length_append]
      rfl
    · rw [fi_sfi, if_neg (by omega), g3]; exact d17
    · rw [fi_sfi, if_neg (by omega), g3]; exact d18
    · rw [ar_sfi, g4]; exact d19 t ht
    · have he : (V.T ++ [(a, b, f)])[i]? = some e := he
      rw [ar_sfi, g5, g6, g7]
      by_cases z : i < V.T.length
      · rw [List.getElem?_append_left z] at he
        rw [upd_n (by omega), upd_n (by omega), upd_n (by omega)]
        exact d20 i e he
      · have hi := get_lt he
        rw [List.length_append] at hi
        have : i = V.T.length := by simp at hi; omega
        subst this
        rw [List.getElem?_append_right (Nat.le_refl _), Nat.sub_self] at he
        cases he
        rw [upd_s, upd_s, upd_s]
        exact ⟨rfl, rfl, rfl⟩
end TELLS
