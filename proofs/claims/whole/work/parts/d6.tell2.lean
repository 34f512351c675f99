section TELL2
variable {σ σ1 : Hp} {S S' : MS} {own : Nat → Nat} {E : Nat} {L : List Nat} {V V1 : Vt} {π : Nat → Nat} {g : Gh}
/-- the reference's row after one is told at place k -/
def tR (R : Nat → Int32) (k a b f : Nat) : Nat → Int32 := upd (upd (upd R (46 + 3 * k) (nI a)) (46 + 3 * k + 1) (nI b)) (46 + 3 * k + 2) (nI f)
theorem r_tell_88_eq {a b f k : Nat} (hk : k < 16) : r_tell_88 (nI a) (nI b) (nI f) (nI k) S = (r_buildNow (r0 S (tR (S.1 0) k a b f))).bind (fun S4 => (rd S4 0 5).bind (fun v5 => some (v5, S4))) := by
  have e1 : (46 : Int32) + 3 * nI k = nI (46 + 3 * k) := by
    rw [show (46 : Int32) = nI 46 from rfl, show (3 : Int32) = nI 3 from rfl, pk_mul, nI_add]
  unfold r_tell_88 tR
  rw [e1, wr_r0 (by omega), bind_s, nI_1, wr_r0 (by omega), bind_s, r0_0, r0_r0, show (2 : Int32) = nI 2 from rfl, nI_add, wr_r0 (by omega), bind_s, r0_0, r0_r0]
theorem tR_n {R : Nat → Int32} {k a b f x : Nat} (h : x < 46 + 3 * k ∨ 46 + 3 * k + 2 < x) : tR R k a b f x = R x := by
  unfold tR
  rw [upd_n (by omega), upd_n (by omega), upd_n (by omega)]
theorem tR_0 {R : Nat → Int32} {k a b f : Nat} : tR R k a b f (46 + 3 * k) = nI a ∧ tR R k a b f (46 + 3 * k + 1) = nI b ∧ tR R k a b f (46 + 3 * k + 2) = nI f := by
  unfold tR
  refine ⟨?_, ?_, upd_s⟩
  · rw [upd_n (by omega), upd_n (by omega), upd_s]
  · rw [upd_n (by omega), upd_s]
/-- one told anew, or one more -/
def toT (T : List Ent) (a b f : Nat) : List Ent := match tp T a b with
  | some k => T.set k (a, b, f)
  | none => T ++ [(a, b, f)]
theorem Vw.told (h : Vw V) {a b f : Nat} (ha : hs V a) (hb : hs V b) (hab : a ≠ b) (hf : f ≤ 99) (hl : tp V.T a b = none → V.T.length < 16) : Vw (V.sT (toT V.T a b f)) := by
  obtain ⟨a1, a2, a3, a4, a5, a6⟩ := h
  have tq := tl_tp V.T a b
  refine ⟨a1, a2, a3, ?_, ?_, ?_⟩
  · show (toT V.T a b f).length ≤ 16
    unfold toT
    cases q : tp V.T a b with
    | none => show (V.T ++ [(a, b, f)]).length ≤ 16; have := hl q; rw [List.length_append]; exact this
    | some k => show (V.T.set k (a, b, f)).length ≤ 16; rw [List.length_set]; exact a4
  · intro e he
    have he : e ∈ toT V.T a b f := he
    have : e ∈ V.T ∨ e = (a, b, f) := by
      unfold toT at he
      cases q : tp V.T a b with
      | none =>
        rw [q] at he
        rcases List.mem_append.mp he with z | z
        · exact Or.inl z
        · exact Or.inr (List.mem_singleton.mp z)
      | some k =>
        rw [q] at he
        exact List.mem_or_eq_of_mem_set he
    rcases this with z | z
    · exact a5 e z
    · rw [z]; exact ⟨ha, hb, hf, hab⟩
  · show (toT V.T a b f).Pairwise _
    unfold toT
    cases q : tp V.T a b with
    | none =>
      rw [q] at tq
      refine List.pairwise_append.mpr ⟨a6, List.pairwise_singleton _ _, fun x hx y hy z => ?_⟩
      rw [List.mem_singleton.mp hy] at z
      exact tq.2 x hx z
    | some k =>
      rw [q] at tq
      obtain ⟨e, e1, e2, e3, -⟩ := tq
      have kl := get_lt e1
      have k1 : (V.T.set k (a, b, f)).map (fun e : Ent => (e.1, e.2.1)) = V.T.map (fun e : Ent => (e.1, e.2.1)) := by
        apply List.ext_getElem?
        intro i
        rw [List.getElem?_map, List.getElem?_map]
        by_cases z : i = k
        · subst z
          rw [List.getElem?_set_self kl, e1]
          show some (a, b) = some (e.1, e.2.1)
          rw [e2, e3]
        · rw [List.getElem?_set_ne (fun y => z y.symm)]
      have k2 : (V.T.map (fun e : Ent => (e.1, e.2.1))).Pairwise (fun x y => ¬ (x.1 = y.1 ∧ x.2 = y.2)) := List.pairwise_map.mpr a6
      rw [← k1] at k2
      exact List.pairwise_map.mp k2
theorem j_tell (h : Iv σ S E L V π g own) {a b f : Nat} (ha : hs V a) (hb : hs V b) (hab : a ≠ b) (hf : f ≤ 99) (hl : tp V.T a b = none → V.T.length < 16) : ∃ r σ' S', kX11_tell_67 2 (nI a) (nI b) (nI f) (o2i (tp V.T a b)) σ = some (r, σ') ∧ r_tell_60 (nI a) (nI b) (nI f) (o2i (tp V.T a b)) S = some (r, S') ∧ ∀ n, In n σ' S' := by
  obtain ⟨σ1, S1, own1, k1, k2, h1, -, -⟩ := h.keep
  have hv := h1.2.1.2.1
  have l16 := hv.2.2.2.1
  have rw0 := h1.2.1.1.1
  have hv1 : Vw (V.sT (toT V.T a b f)) := Vw.told hv ha hb hab hf hl
  obtain ⟨n1, n2⟩ := c_note h1.1.1 l16 (a := a) (b := b) (f := f)
  obtain ⟨s, R', y1, y2, y3, y4, y5, y6⟩ : ∃ s R', kX7_noteTold σ1 3 (o2i (tp V.T a b)) (nI a) (nI b) (nI f) = some s ∧ St s 3 E L (V.sT (toT V.T a b f)) ∧ Dn Ah σ1 s ∧ RW R' 2 (V.sT (toT V.T a b f)) ∧ (∀ x, x < 2 ∨ 23614 ≤ x → R' x = S1.1 0 x) ∧ r_tell_60 (nI a) (nI b) (nI f) (o2i (tp V.T a b)) S = (r_buildNow (r0 S1 R')).bind (fun S4 => (rd S4 0 5).bind (fun v5 => some (v5, S4))) := by
    obtain ⟨⟨b1, b2, b3⟩, b4, b5⟩ := rw0
    have b3 : S1.1 0 5 = nI V.T.length := b3
    unfold r_tell_60 toT
    rw [k2, bind_s]
    cases q : tp V.T a b with
    | none =>
      obtain ⟨s, y1, y2, y3⟩ := n2 (hl q)
      have hl := hl q
      refine ⟨s, tR (upd (S1.1 0) 5 (nI (V.T.length + 1))) V.T.length a b f, y1, y2, y3, ⟨⟨?_, ?_, ?_⟩, fun x hx => ?_, fun i e he => ?_⟩, fun x hx => ?_, ?_⟩
      · rw [tR_n (by omega), upd_n (by omega)]; exact b1
      · rw [tR_n (by omega), upd_n (by omega)]; exact b2
      · rw [tR_n (by omega), upd_s]
        show nI (V.T.length + 1) = nI (V.T ++ [(a, b, f)]).length
        rw [List.length_append]; rfl
      · rw [tR_n (by omega), upd_n (by omega)]; exact b4 x hx
      · have he : (V.T ++ [(a, b, f)])[i]? = some e := he
        by_cases z : i < V.T.length
        · rw [List.getElem?_append_left z] at he
          rw [tR_n (by omega), upd_n (by omega), tR_n (by omega), upd_n (by omega), tR_n (by omega), upd_n (by omega)]
          exact b5 i e he
        · have hi := get_lt he
          rw [List.length_append] at hi
          have : i = V.T.length := by simp at hi; omega
          subst this
          rw [List.getElem?_append_right (Nat.le_refl _), Nat.sub_self] at he
          cases he
          exact tR_0
      · rw [tR_n (by omega), upd_n (by omega)]
      · rw [if_pos (show o2i (none : Option Nat) = -1 from rfl), show (5 : Int32) = nI 5 from rfl, rd_r0 (by omega), bind_s, bind_s, b3, nI_1, wr_r0 (by omega), bind_s, r_tell_88_eq hl, r0_0, r0_r0]
        rfl
    | some k =>
      have kl := tp_lt q
      obtain ⟨s, y1, y2, y3⟩ := n1 k kl
      refine ⟨s, tR (S1.1 0) k a b f, y1, y2, y3, ⟨⟨?_, ?_, ?_⟩, fun x hx => ?_, fun i e he => ?_⟩, fun x hx => ?_, ?_⟩
      · rw [tR_n (by omega)]; exact b1
      · rw [tR_n (by omega)]; exact b2
      · rw [tR_n (by omega)]
        show S1.1 0 5 = nI (V.T.set k (a, b, f)).length
        rw [List.length_set]; exact b3
      · rw [tR_n (by omega)]; exact b4 x hx
      · have he : (V.T.set k (a, b, f))[i]? = some e := he
        by_cases z : i = k
        · subst z
          rw [List.getElem?_set_self kl] at he
          cases he
          exact tR_0
        · rw [List.getElem?_set_ne (fun y => z y.symm)] at he
          have := get_lt he
          rw [tR_n (by omega), tR_n (by omega), tR_n (by omega)]
          exact b5 i e he
      · rw [tR_n (by omega)]
      · rw [if_neg (show ¬ o2i (some k) = -1 from fun y => (nI_m1 (by omega)).mp y)]
        exact r_tell_88_eq (by omega)
  obtain ⟨σ2, σ3, S3, a1, a2, a3, a4, a5, a6, a7, a8⟩ := j_head h1.jc y3 y2 hv1 y4 y5
  obtain ⟨E', L', V', π', g', own', i, -⟩ := h1.jr a8
  refine ⟨nI V'.T.length, σ3, S3, ?_, ?_, fun n => i.in⟩
  · unfold kX11_tell_67
    rw [h.lk.f7, bind_s, h.lk.f0, bind_s, ckd_ok h.k38, k1, bind_s, h1.lk.f0, bind_s, h1.bv.1.k3, y1, bind_s, a1.f2, bind_s, a1.f0, bind_s, ckd_ok a2, a3, bind_s, a4.f3, bind_s, ckd_ok a5, a6, bind_s, i.lk.f0, bind_s, gfi_ok i.1.1.ks, bind_s, i.1.1.1.2.2.2.1.2.1]
  · rw [y6, a7, bind_s, show (5 : Int32) = nI 5 from rfl, rd_r0 (by omega), bind_s]
    have : S3.1 0 5 = nI V'.T.length := i.2.1.1.1.1.2.2
    rw [this]
theorem ls_tell : LS_tell In := fun n σ S x y z _ ⟨E, L, V, π, g, own, h⟩ => by
  obtain ⟨p, a1, b1, c1⟩ := h.bv.h x
  obtain ⟨q, a2, b2, c2⟩ := h.bv.h y
  unfold kX11_tell r_tell
  simp only [h.lk.f0, bind_s, h.bv.1.k3, a1, b1, a2, b2]
  cases p with
  | false => exact ⟨-1, σ, S, rfl, rfl, h.in⟩
  | true =>
    obtain ⟨a, rfl, ha⟩ := c1 rfl
    rw [bI_t rfl, if_neg (show ¬ (1 : Int32) = 0 by decide), if_neg (show ¬ (1 : Int32) = 0 by decide)]
    cases q with
    | false => exact ⟨-1, σ, S, rfl, rfl, h.in⟩
    | true =>
      obtain ⟨b, rfl, hb⟩ := c2 rfl
      have a40 := ha.1
      have b40 := hb.1
      rw [bI_t rfl, if_neg (show ¬ (1 : Int32) = 0 by decide), if_neg (show ¬ (1 : Int32) = 0 by decide)]
      by_cases hab : a = b
      · rw [if_pos (by rw [hab]), if_pos (by rw [hab])]
        exact ⟨-1, σ, S, rfl, rfl, h.in⟩
      have nab : ¬ nI a = nI b := by rw [nI_eq (by omega) (by omega)]; exact hab
      rw [if_neg nab, if_neg nab, isFar_eq, r_isIn_b, bind_s, bind_s]
      by_cases qf : (0 : Int32) ≤ z ∧ z ≤ 99
      · obtain ⟨f, hf, rfl⟩ := far_nat qf
        have hv := h.2.1.2.1
        have ct : kX7_toldAt σ 3 (nI a) (nI b) = some (o2i (tp V.T a b)) := by
          unfold kX7_toldAt
          rw [show (0 : Int32) = nI 0 from rfl, c_toldAt_2 h.1.1.1 hv.2.2.2.1 (fun e he => ⟨(hv.2.2.2.2.1 e he).1.1, (hv.2.2.2.2.1 e he).2.1.1⟩) (by omega) (by omega) V.T FU 0 (FU_gt (by have := hv.2.2.2.1; omega)) (fun k e hk => by rw [Nat.zero_add]; exact hk) (Nat.zero_add _)]
          cases tp V.T a b <;> rfl
        have rw0 := h.2.1.1.1
        have b3 : S.1 0 5 = nI V.T.length := rw0.1.2.2
        have l16 := hv.2.2.2.1
        rw [bI_t qf, if_neg (show ¬ (1 : Int32) = 0 by decide), if_neg (show ¬ (1 : Int32) = 0 by decide), ct, bind_s, r_toldAt_eq rw0 hv (by omega) (by omega), bind_s, gfi_ok h.1.1.ks, bind_s, h.1.1.1.2.2.2.1.2.1, show (5 : Int32) = nI 5 from rfl, rd_r0 (by omega), bind_s, b3]
        by_cases go : tp V.T a b = none → V.T.length < 16
        · obtain ⟨r, σ', S', t1, t2, t3⟩ := j_tell h ha hb hab hf go
          refine ⟨r, σ', S', ?_, ?_, t3 _⟩
          · by_cases w : o2i (tp V.T a b) = -1
            · rw [if_pos w]
              have : tp V.T a b = none := by
                cases e : tp V.T a b with
                | none => rfl
                | some k => rw [e] at w; exact absurd w (fun y => (nI_m1 (by have := tp_lt e; omega)).mp y)
              rw [if_pos (by rw [show (16 : Int32) = nI 16 from rfl, nI_ltI (by omega) (by omega)]; exact go this)]
              exact t1
            · rw [if_neg w]; exact t1
          · by_cases w : o2i (tp V.T a b) = -1
            · rw [if_pos w]
              have : tp V.T a b = none := by
                cases e : tp V.T a b with
                | none => rfl
                | some k => rw [e] at w; exact absurd w (fun y => (nI_m1 (by have := tp_lt e; omega)).mp y)
              have := go this
              rw [if_neg (by rw [show (16 : Int32) = nI 16 from rfl, nI_eq (by omega) (by omega)]; omega)]
              exact t2
            · rw [if_neg w]; exact t2
        · have e : tp V.T a b = none := Classical.byContradiction (fun y => go (fun z => absurd z y))
          have l : V.T.length = 16 := by
            have : ¬ V.T.length < 16 := fun y => go (fun _ => y)
            omega
          rw [e, if_pos (show o2i (none : Option Nat) = -1 from rfl), if_pos (show o2i (none : Option Nat) = -1 from rfl), l, if_neg (by decide), if_pos (show nI 16 = 16 from rfl)]
          exact ⟨-1, σ, S, rfl, rfl, h.in⟩
      · rw [bI_f qf, if_pos rfl, if_pos rfl]
        exact ⟨-1, σ, S, rfl, rfl, h.in⟩
end TELL2
