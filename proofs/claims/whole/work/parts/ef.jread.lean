section JREAD
variable {σ σ' σ1 σ2 : Hp} {S S' S1 : MS} {n q t : Nat} {f : Nat → Int32}
theorem j_command {p i : Nat} (hi : i < 75) (z : Kz σ) (h : Atp f n σ S p) (e50 : S.2 50 = nI i) : ∃ σ' r S', kX0_readCommand σ 53 (nI i) = some σ' ∧ r_readCommand S = some (r, S') ∧ CR f n σ S p i σ' r S' := by
  obtain ⟨h1, h2, hp, e9, e46, e6, e45⟩ := h
  have n3 := h2.1
  obtain ⟨q, hq⟩ : ∃ q, q = rn f n isBl (n - p) p := ⟨_, rfl⟩
  have ql := rn_le (n := n) (f := f) (P := isBl) (n - p) p (by omega)
  rw [← hq] at ql
  obtain ⟨t, ht⟩ : ∃ t, t = rn f n isLt (n - q) q := ⟨_, rfl⟩
  have tl := rn_le (n := n) (f := f) (P := isLt) (n - q) q (by omega)
  rw [← ht] at tl
  obtain ⟨σ1, a, b, c, d, g⟩ := c_goOn h1 hp e9
  rw [← hq] at c d g
  have k : Kr f n σ1 := h1.d b.d
  have z1 : Kz σ1 := z.dn b.1
  obtain ⟨v, v1, v2, v3⟩ := c_pick k ql.2 c d g ht
  obtain ⟨S1, sa, sb, sc, sd, sg⟩ := r_skip_eq h2 hp e46
  rw [← hq] at sc sd
  have w1 : Rw (3 * i) S S1 := ⟨fun j _ => by rw [sb], fun i _ => by rw [sb], fun k q1 q2 q3 => sg k q2 q3⟩
  obtain ⟨u, S2, k1, k2, k3, k4, k5⟩ := r_readKnown_eq (w1.sh h2) ql.2 sc sd ht
  have w2 : Rw (3 * i) S1 S2 := ⟨fun j _ => by rw [k2], fun i _ => by rw [k2], fun k q1 q2 q3 => k4 k q2⟩
  have w3 : Rw (3 * i) S (up2 S2.1 28 (3 * i) u, S2.2) := (w1.tr w2).tr Rw.w
  have xl : 3 * i < m_len 28 := by rw [show m_len 28 = 300 from rfl]; omega
  have z2 : Kz (sar σ1 55 i v) := z1.dn (A := fun x => x = 55) (by rw [sar_saw]; exact Dn.xa rfl)
  have k2' : Kr f n (sar σ1 55 i v) := k.sa (by omega)
  have e : kX0_readCommand σ 53 (nI i) = kX0_readCommand_25 53 (nI i) 55 (nI i) v σ1 := by
    unfold kX0_readCommand
    rw [ckd_ok h1.1.1, a, bind_s, gfr_ok k.1.1, bind_s, z1.2.2.1]
    exact v1 _ _
  have ky : Ky i σ (sar σ1 55 i v) := by
    refine ⟨(b.1.mono (fun x hx => Or.inl hx)).tr (by rw [sar_saw]; exact Dn.xa (Or.inr (Or.inl rfl))), fun k a1 a2 a3 a4 => by rw [fi_sar]; exact b.2 k a2 a3 a4, fun a ha k hk => ?_⟩
    rw [ar_sar, if_neg (fun w => hk w.2), (b.1.2 a (by omega)).2]
  have rx : Rx i S (up2 S2.1 28 (3 * i) u, S2.2) := ⟨w3.1, fun k hk => w3.2.1 k (by omega), w3.2.2⟩
  have ev : (sar σ1 55 i v).ar 55 i = v := by rw [ar_sar, if_pos ⟨rfl, rfl⟩]
  rw [e]
  unfold kX0_readCommand_25 r_readCommand
  rw [ast_ok z1.1.1 (by rw [z1.2.1.1]; exact hi) (by omega), bind_s, gfr_ok k2'.1.1, bind_s, z2.2.2.1, ald_ok z2.1.1 (by rw [z2.2.1.1]; exact hi) (by omega), bind_s, ev, sa, bind_s, k1, bd2_s, sg 50 (by omega) (by omega), e50, show (3 : Int32) * nI i = nI (3 * i) by rw [show (3 : Int32) = nI 3 from rfl, pk_mul], wr_ok xl (by omega), bind_s, rd_up (by omega), bind_s]
  rcases fst_c k5 v2 with ⟨m, m1, m3, rfl, rfl⟩ | ⟨rfl, m3⟩
  · have nm1 : ¬ nI m = -1 := fun w => (nI_m1 (by omega)).mp w
    have l3 := (nm_t m (by omega)).2.2.2.1
    have tq := m3.1
    have at2 : Atp f n (sar σ1 55 i (nI m)) (up2 S2.1 28 (3 * i) (nI m), S2.2) t := by
      refine ⟨k2', w3.sh h2, tl.2, by rw [fi_sar]; exact v3 nm1, k3, by rw [fi_sar, b.2 6 (by omega) (by omega) (by omega)]; exact e6, ?_⟩
      show S2.2 45 = _
      rw [k4 45 (by omega), sg 45 (by omega) (by omega)]; exact e45
    exact j_cargs (p0 := p) hi m1 z2 at2 (by omega) (fun w => by
      rw [w] at tq
      have : sLen.getD 7 0 = 4 := rfl
      omega) (by rw [ar_sar, if_pos ⟨rfl, rfl⟩]) up2_s ky rx
  · have hn : ∀ a : Nat, a < 8 → ¬ u = nI a := fun a ha w => by
      rcases m3 with rfl | ⟨m, m1, m2, rfl⟩
      · exact (nI_m1 (show a < 2 ^ 31 by omega)).mp w.symm
      · have := (nI_eq (by omega) (by omega)).mp w
        omega
    rw [if_neg (show ¬ (-1 : Int32) = 0 by decide), if_neg (show ¬ (-1 : Int32) = 1 by decide), if_neg (show ¬ (-1 : Int32) = 2 by decide), if_neg (show ¬ (-1 : Int32) = 3 by decide), if_neg (show ¬ (-1 : Int32) = 4 by decide), if_neg (show ¬ (-1 : Int32) = 5 by decide), if_neg (show ¬ (-1 : Int32) = 6 by decide), if_neg (show ¬ (-1 : Int32) = 7 by decide)]
    rw [if_neg (show ¬ u = 0 from hn 0 (by omega)), if_neg (show ¬ u = 1 from hn 1 (by omega)), if_neg (show ¬ u = 2 from hn 2 (by omega)), if_neg (show ¬ u = 3 from hn 3 (by omega)), if_neg (show ¬ u = 4 from hn 4 (by omega)), if_neg (show ¬ u = 5 from hn 5 (by omega)), if_neg (show ¬ u = 6 from hn 6 (by omega)), if_neg (show ¬ u = 7 from hn 7 (by omega))]
    rw [gfi_ok k2'.1.1, bind_s, fi_sar, d, pfi_ok k2'.1.1, bind_s, r_isWrong_eq, bd2_s, zb_0, bind_s]
    have f45 : (pf ((up2 S2.1 28 (3 * i) u, S2.2) : MS) 45 (S2.2 47)).2 45 = nI q := by
      rw [pf_s, k4 47 (by omega)]; exact sd
    refine ⟨_, 0, _, rfl, rfl, (D69.x.k2 (i := i)).ky ky, ((Rw.p (a := 3 * i + 1) (Or.inl rfl)).r2 (Or.inl rfl)).rx rx, Or.inr ⟨rfl, ?_, ?_⟩⟩
    · rw [fi_sfi, if_pos ⟨rfl, rfl⟩]; exact f45.symm
    · exact fun w => (nI_m1 (show q < 2 ^ 31 by omega)).mp (f45.symm.trans w)
/-- the commands read so far -/
def Cdi (σ : Hp) (S : MS) (i : Nat) : Prop := ∀ k, k < i → S.1 28 (3 * k) = σ.ar 55 k ∧ CmdOK (σ.ar 55 k) (σ.ar 56 k) (σ.ar 57 k) (S.1 28 (3 * k + 1)) (S.1 28 (3 * k + 2))
theorem Cdi.cg {i : Nat} (h : Cdi σ S i) (a : σ'.ar 55 = σ.ar 55) (b : σ'.ar 56 = σ.ar 56) (c : σ'.ar 57 = σ.ar 57) (d : S'.1 28 = S.1 28) : Cdi σ' S' i := fun k hk => by
  rw [a, b, c, d]
  exact h k hk
theorem Cdi.s {i : Nat} (h : Cdi σ S i) (a : Ky i σ σ') (b : Rx i S S') (c : S'.1 28 (3 * i) = σ'.ar 55 i) (d : CmdOK (σ'.ar 55 i) (σ'.ar 56 i) (σ'.ar 57 i) (S'.1 28 (3 * i + 1)) (S'.1 28 (3 * i + 2))) : Cdi σ' S' (i + 1) := fun k hk => by
  by_cases w : k = i
  · rw [w]; exact ⟨c, d⟩
  · rw [a.2.2 55 (Or.inl rfl) k w, a.2.2 56 (Or.inr (Or.inl rfl)) k w, a.2.2 57 (Or.inr (Or.inr rfl)) k w, b.2.1 _ (show 3 * k < 3 * i by omega), b.2.1 _ (show 3 * k + 1 < 3 * i by omega), b.2.1 _ (show 3 * k + 2 < 3 * i by omega)]
    exact h k (by omega)
/-- what reading leaves -/
def Lp (σ : Hp) (S : MS) (σ' : Hp) (S' : MS) : Prop := (Dn (fun x => x = 53 ∨ x = 55 ∨ x = 56 ∨ x = 57) σ σ' ∧ ∀ k, k < 5 → σ'.fi k 53 = σ.fi k 53) ∧ (∀ j, j ≠ 28 → S'.1 j = S.1 j) ∧ ∀ k, k < 45 ∨ 50 < k → S'.2 k = S.2 k
theorem Lp.tr (h : Lp σ S σ1 S1) (k : Lp σ1 S1 σ' S') : Lp σ S σ' S' := ⟨⟨h.1.1.tr k.1.1, fun j q => (k.1.2 j q).trans (h.1.2 j q)⟩, fun j q => (k.2.1 j q).trans (h.2.1 j q), fun j q => (k.2.2 j q).trans (h.2.2 j q)⟩
theorem Lp.of {i : Nat} (a : Ky i σ σ') (b : Rx i S S') : Lp σ S σ' S' := ⟨⟨a.1, fun k q => a.2.1 k (by omega) (by omega) (by omega) (by omega)⟩, b.1, fun k q => b.2.2 k (by omega) (by omega) (by omega)⟩
theorem so_59 : so 59 = 3 := by decide
theorem j_rloop : ∀ (m F F' i p : Nat) (σ : Hp) (S : MS), m < F → m + 1 < F' → i + m = 61 → 5 * i ≤ p → Kz σ → Atp f n σ S p → σ.fi 5 53 = nI i → S.2 50 = nI i → Cdi σ S i → ∃ v σ' S', kX0_read_17 F 53 (nI i) σ = some σ' ∧ r_readAll_17 F' 1 S = some (v, S') ∧ Lp σ S σ' S' ∧ ((v = 0 ∧ Wg σ' S') ∨ (v = 1 ∧ σ'.fi 6 53 = -1 ∧ S'.2 45 = -1 ∧ ∃ n, Cds σ' S' n))
  | m, 0, _, _, _, _, _, h, _, _, _, _, _, _, _, _ => absurd h (Nat.not_lt_zero m)
  | m, _ + 1, 0, _, _, _, _, _, h, _, _, _, _, _, _, _ => absurd h (Nat.not_lt_zero _)
  | 0, F + 1, F' + 1, i, p, σ, S, hF, hF', hm, h5, z, h, e5, e50, cd => by
    have := h.2.2.1
    have := h.2.1.1
    omega
  | m + 1, F + 1, F' + 1, i, p, σ, S, hF, hF', hm, h5, z, h, e5, e50, cd => by
    have pn := h.2.2.1
    have n3 := h.2.1.1
    have k53 := h.1.1.1
    obtain ⟨σ3, r, S5, a, b, ky, rx, c⟩ := j_command (show i < 75 by omega) z h e50
    have k3 : σ3.kd 53 = 10 := by rw [ky.1.1.1]; exact k53
    unfold kX0_read_17 r_readAll_17
    rw [if_neg (show ¬ (75 : Int32) ≤ nI i from nI_ge (b := 75) (show i < 75 by omega) (by omega)), ckd_ok k53, a, bind_s, gfi_ok k3, bind_s, if_neg (show ¬ (1 : Int32) = 0 by decide), b, bd2_s]
    rcases c with ⟨rfl, ⟨t, t4, at3⟩, c1, c2⟩ | ⟨rfl, w⟩
    · obtain ⟨h1, h2, hp, e9, e46, e6, e45⟩ := at3
      rw [if_pos e6, gfi_ok k3, bind_s, ky.2.1 5 (by omega) (by omega) (by omega) (by omega), e5, nI_1, pfi_ok k3, bind_s, ckd_ok (by rw [kd_sfi]; exact k3), if_neg (show ¬ (1 : Int32) = 0 by decide), rx.2.2 50 (by omega) (by omega) (by omega), e50, nI_1]
      have k6 : Kr f n (sfi σ3 5 53 (nI (i + 1))) := h1.x (by omega)
      obtain ⟨σ7, x1, x2, x3, x4, x5⟩ := c_goOn k6 hp (by rw [fi_sfi, if_neg (by omega)]; exact e9)
      obtain ⟨S6, y1, y2, y3, y4, y5⟩ := r_skip_eq (S := pf S5 50 (nI (i + 1))) (h2.pf (by omega)) hp (by rw [pf_n (by omega)]; exact e46)
      obtain ⟨q, hq⟩ : ∃ q, q = rn f n isBl (n - t) t := ⟨_, rfl⟩
      have ql := rn_le (n := n) (f := f) (P := isBl) (n - t) t (by omega)
      rw [← hq] at x3 x4 x5 y3 y4 ql
      have k7 : Kr f n σ7 := k6.d x2.d
      have sh6 : Rsh f n S6 := ⟨h2.1, by rw [y5 44 (by omega) (by omega), pf_n (by omega)]; exact h2.2.1, by rw [y2, pf_1]; exact h2.2.2.1, by rw [y2, pf_1]; exact h2.2.2.2⟩
      have s50 : S6.2 50 = nI (i + 1) := by rw [y5 50 (by omega) (by omega), pf_s]
      have f5 : σ7.fi 5 53 = nI (i + 1) := by rw [x2.2 5 (by omega) (by omega) (by omega), fi_sfi, if_pos ⟨rfl, rfl⟩]
      have f6 : σ7.fi 6 53 = -1 := by rw [x2.2 6 (by omega) (by omega) (by omega), fi_sfi, if_neg (by omega)]; exact e6
      have s45 : S6.2 45 = -1 := by rw [y5 45 (by omega) (by omega), pf_n (by omega)]; exact e45
      have lp7 : Lp σ S σ7 S6 := (Lp.of ky rx).tr ⟨⟨((Dn.xi (A := fun x => x = 53) rfl).tr x2.1).mono (fun x hx => Or.inl hx), fun k hk => by rw [x2.2 k (by omega) (by omega) (by omega), fi_sfi, if_neg (by omega)]⟩, fun j _ => by rw [y2, pf_1], fun k hk => by rw [y5 k (by omega) (by omega), pf_n (by omega)]⟩
      have cd7 : Cdi σ7 S6 (i + 1) := (cd.s ky rx c1 c2).cg (by rw [(x2.1.2 55 (by omega)).2, ar_sfi]) (by rw [(x2.1.2 56 (by omega)).2, ar_sfi]) (by rw [(x2.1.2 57 (by omega)).2, ar_sfi]) (by rw [y2, pf_1])
      have z7 : Kz σ7 := z.dn lp7.1.1
      rw [x1, bind_s, gfi_ok k7.1.1, bind_s, x3, bind_s, y1, bind_s, y3, r_byteAt_eq sh6 (show q ≤ 300 by omega), bind_s]
      obtain ⟨F', rfl⟩ : ∃ k, F' = k + 1 := ⟨F' - 1, by omega⟩
      by_cases w : q < n
      · have s1 : 1 ≤ tks f n q := by
          unfold tks
          rw [if_pos w]
          exact so_le.1
        have s3 : tks f n q ≤ 3 := tks_le
        rw [if_pos w, if_neg (show ¬ nI (tks f n q) = 0 from nI_ne0 s1 (by omega))]
        by_cases u : f q = 59
        · have t3 : tks f n q = 3 := by
            unfold tks
            rw [if_pos w, u]
            exact so_59
          have e3 : tke f n q = q + 1 := by
            unfold tke
            rw [if_pos w, u, if_pos so_59]
          rw [t3, if_pos (show nI 3 = 3 from rfl), gfr_ok k7.1.1, bind_s, k7.1.2.2.2, gfi_ok k7.1.1, bind_s, x4, ald_ok k7.1.2.1 (by rw [k7.1.2.2.1]; omega) (by omega), bind_s, k7.2.2.2 q w, if_pos u, if_pos u]
          unfold r_readAll_62
          rw [if_neg (show ¬ (1 : Int32) = 0 by decide), y3, nI_1]
          have at7 : Atp f n σ7 (pf S6 46 (nI (q + 1))) (q + 1) := ⟨k7, sh6.pf (by omega), by omega, by rw [x5, e3], pf_s, f6, by rw [pf_n (by omega)]; exact s45⟩
          obtain ⟨v, σ8, S8, g1, g2, g3, g4⟩ := j_rloop m F (F' + 1) (i + 1) (q + 1) σ7 (pf S6 46 (nI (q + 1))) (by omega) (by omega) (by omega) (by omega) z7 at7 f5 (by rw [pf_n (by omega)]; exact s50) (cd7.cg rfl rfl rfl (by rw [pf_1]))
          refine ⟨v, σ8, S8, g1, g2, lp7.tr (Lp.tr ⟨⟨Dn.rfl, fun _ _ => rfl⟩, fun j _ => by rw [pf_1], fun k hk => pf_n (by omega)⟩ g3), g4⟩
        · have wr81 : (if nI (tks f n q) = 3 then (gfr σ7 10 0 53).bind (fun v10 => (gfi σ7 10 8 53).bind (fun v11 => (ald σ7 1 v10 v11).bind (fun v12 => if v12 = 59 then kX0_read_17 F 53 (nI (i + 1)) σ7 else kX0_read_81 53 σ7))) else kX0_read_81 53 σ7) = some (sfi σ7 6 53 (nI q)) := by
            have e81 : kX0_read_81 53 σ7 = some (sfi σ7 6 53 (nI q)) := by
              unfold kX0_read_81
              rw [gfi_ok k7.1.1, bind_s, x4, pfi_ok k7.1.1, bind_s]
            rw [gfr_ok k7.1.1, bind_s, k7.1.2.2.2, gfi_ok k7.1.1, bind_s, x4, ald_ok k7.1.2.1 (by rw [k7.1.2.2.1]; omega) (by omega), bind_s, k7.2.2.2 q w, if_neg u, e81, ite_self]
          rw [wr81, if_neg u]
          unfold r_readAll_62
          rw [if_pos rfl]
          unfold r_readAll_17
          rw [if_pos rfl, y3, r_byteAt_eq sh6 (show q ≤ 300 by omega), bind_s, if_pos w, if_neg (sh6.2.2.1 q w).2, r_isWrong_eq, bd2_s, if_pos rfl, zb_0, bind_s, y4]
          refine ⟨0, _, _, rfl, rfl, lp7.tr ⟨⟨Dn.xi (Or.inl rfl), fun k hk => by rw [fi_sfi, if_neg (by omega)]⟩, fun j _ => by rw [pf_1], fun k hk => pf_n (by omega)⟩, Or.inl ⟨rfl, ?_, ?_⟩⟩
          · rw [fi_sfi, if_pos ⟨rfl, rfl⟩, pf_s]
          · rw [pf_s]; exact fun v => (nI_m1 (show q < 2 ^ 31 by omega)).mp v
      · have t0 : tks f n q = 0 := by
          unfold tks
          rw [if_neg w]
        rw [t0, if_pos (show nI 0 = 0 from rfl), if_neg w, if_neg (show ¬ (-1 : Int32) = 59 by decide)]
        unfold r_readAll_62
        rw [if_pos rfl]
        unfold r_readAll_17 r_readAll_99
        rw [if_pos rfl, y3, r_byteAt_eq sh6 (show q ≤ 300 by omega), bind_s, if_neg w, if_pos rfl, zb_1, bind_s]
        exact ⟨1, σ7, S6, rfl, rfl, lp7, Or.inr ⟨rfl, f6, s45, i + 1, by omega, f5, s50, cd7⟩⟩
    · rw [if_neg (by rw [w.1]; exact w.2), if_pos rfl, zb_0, bind_s]
      exact ⟨0, σ3, S5, rfl, rfl, Lp.of ky rx, Or.inl ⟨rfl, w⟩⟩
/-- both read the same -/
theorem j_read (σ : Hp) (S : MS) (h : CM σ S) : ∃ v σ' S', kX0_read σ 53 = some σ' ∧ r_readAll S = some (v, S') ∧ Rdg σ S v σ' S' := by
  obtain ⟨⟨a1, a2, a3, a4, a5⟩, ⟨b1, b2, b3, b4⟩, ⟨c1, c2, c3, c4⟩, ⟨n, d1, d2, d3, d4⟩, e, g⟩ := h
  have k0 : Kr (S.1 26) n σ := ⟨⟨a1, a2, b1, c1⟩, d1, d2, fun i hi => (d4 i hi).1⟩
  have r0 : Rsh (S.1 26) n S := ⟨d1, d3, fun i hi => ⟨rfl, (d4 i hi).2⟩, g⟩
  have k3 : Kr (S.1 26) n (sfi (sfi (sfi σ 5 53 0) 6 53 (-1)) 9 53 0) := ((k0.x (by omega)).x (by omega)).x (by omega)
  have r3 : Rsh (S.1 26) n (pf (pf (pf S 45 (-1)) 50 0) 46 0) := ((r0.pf (by omega)).pf (by omega)).pf (by omega)
  have z : Kz (sfi (sfi (sfi σ 5 53 0) 6 53 (-1)) 9 53 0) := by
    unfold Kz
    simp only [kd_sfi, ln_sfi, fr_sfi]
    exact ⟨⟨a3, a4, a5⟩, ⟨b2, b3, b4⟩, c2, c3, c4⟩
  have at0 : Atp (S.1 26) n (sfi (sfi (sfi σ 5 53 0) 6 53 (-1)) 9 53 0) (pf (pf (pf S 45 (-1)) 50 0) 46 0) 0 := by
    refine ⟨k3, r3, by omega, by rw [fi_sfi, if_pos ⟨rfl, rfl⟩]; rfl, by rw [pf_s]; rfl, ?_, ?_⟩
    · rw [fi_sfi, if_neg (by omega), fi_sfi, if_pos ⟨rfl, rfl⟩]
    · rw [pf_n (by omega), pf_n (by omega), pf_s]
  obtain ⟨v, σ', S', x1, x2, x3, x4⟩ := j_rloop 61 FU FU 0 0 _ _ (FU_gt (by omega)) (FU_gt (m := 62) (by omega)) (by omega) (by omega) z at0 (by rw [fi_sfi, if_neg (by omega), fi_sfi, if_neg (by omega), fi_sfi, if_pos ⟨rfl, rfl⟩]; rfl) (by rw [pf_n (by omega), pf_s]; rfl) (fun k hk => absurd hk (Nat.not_lt_zero k))
  have x1 : kX0_read_17 FU 53 0 _ = some σ' := x1
  refine ⟨v, σ', S', ?_, x2, ⟨?_, ?_, ?_, ?_⟩, ?_, ?_⟩
  · unfold kX0_read
    rw [pfi_ok a1, bind_s, pfi_ok (by rw [kd_sfi]; exact a1), bind_s, pfi_ok (by rw [kd_sfi, kd_sfi]; exact a1), bind_s, x1]
  · exact (((Dn.xi (Or.inl rfl)).xi' (Or.inl rfl)).xi' (Or.inl rfl)).tr x3.1.1
  · rw [x3.1.2 1 (by omega), fi_sfi, if_neg (by omega), fi_sfi, if_neg (by omega), fi_sfi, if_neg (by omega)]
  · exact fun j hj => by rw [x3.2.1 j hj, pf_1, pf_1, pf_1]
  · exact fun k hk => by rw [x3.2.2 k hk, pf_n (by omega), pf_n (by omega), pf_n (by omega)]
  · rcases x4 with ⟨-, w⟩ | ⟨-, w1, w2, -⟩
    · exact w.1
    · rw [w1, w2]
  · rcases x4 with ⟨w1, w2⟩ | ⟨w1, w2, w3, w4⟩
    · exact Or.inl ⟨w1, by rw [w2.1]; exact w2.2⟩
    · exact Or.inr ⟨w1, w2, w4⟩
theorem ls_perform : LS_perform In := perf_of j_read
end JREAD
