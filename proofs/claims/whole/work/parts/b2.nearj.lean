section NEARJ
variable {σ : Hp} {S : MS} {V : Vt} {g : Gh} {π : Nat → Nat} {E : Nat} {L : List Nat} {dq : Nat → Nat} {fa : Bool}
/-- what a search found, on both sides -/
def SJ (σ : Hp) (S : MS) (C : List Nat) (pd sp lk : Nat) : Prop := (σ.fi 617 29 = 1 ∧ S.2 33 = 1) ∧ C.length ≤ 40 ∧ (σ.fi 613 29 = nI C.length ∧ S.2 32 = nI C.length) ∧ (σ.fi 614 29 = nI pd ∧ S.2 27 = nI pd) ∧ (σ.fi 615 29 = nI sp ∧ S.2 28 = nI sp) ∧ (σ.fi 616 29 = nI lk ∧ S.2 29 = nI lk) ∧ ∀ i t : Nat, C[i]? = some t → t < 40 ∧ σ.ar 32 i = nI t ∧ S.1 18 i = nI t
def SR (L : List Nat) (σ : Hp) (S : MS) (σ' : Hp) (S' : MS) (C : List Nat) : Prop := (∃ pd sp lk, SJ σ' S' C pd sp lk) ∧ Sf L σ σ' ∧ (∃ r q, Mo σ' r q) ∧ Rz S S'
theorem r_begin_eq (x1 x2 : Int32) : ∃ S', r_begin S x1 x2 = some S' ∧ (∀ j, j ≠ 17 → S'.1 j = S.1 j) ∧ (∀ t, t < 40 → S'.1 17 t = -1) ∧ (S'.2 26 = 0 ∧ S'.2 27 = 0 ∧ S'.2 28 = 0 ∧ S'.2 29 = 0 ∧ S'.2 30 = x2 ∧ S'.2 31 = x1 ∧ S'.2 33 = 1) ∧ ∀ k, k < 26 ∨ 33 < k ∨ k = 32 → S'.2 k = S.2 k := by
  have key : ∀ (m F n : Nat) (T : MS), m < F → n + m = 40 → (∀ j, j ≠ 17 → T.1 j = S.1 j) → T.2 = S.2 → (∀ t, t < n → T.1 17 t = -1) → ∃ T' : MS, r_begin_2 F x1 x2 (nI n) T = some (pf (pf (pf (pf (pf (pf (pf T' 26 0) 27 0) 28 0) 29 0) 30 x2) 31 x1) 33 1) ∧ (∀ j, j ≠ 17 → T'.1 j = S.1 j) ∧ T'.2 = S.2 ∧ ∀ t, t < 40 → T'.1 17 t = -1 := by
    intro m
    induction m with
    | zero =>
      intro F n T hF hn h1 h2 h3
      obtain ⟨F, rfl⟩ : ∃ F', F = F' + 1 := ⟨F - 1, by omega⟩
      have : n = 40 := by omega
      subst this
      rw [r_begin_2.eq_2, if_pos (by decide)]
      exact ⟨T, rfl, h1, h2, h3⟩
    | succ m ih =>
      intro F n T hF hn h1 h2 h3
      obtain ⟨F, rfl⟩ : ∃ F', F = F' + 1 := ⟨F - 1, by omega⟩
      rw [r_begin_2.eq_2, if_neg (show ¬ (40 : Int32) ≤ nI n from nI_ge (b := 40) (by omega) (by decide)), wr_ok (by rw [len17.1]; omega) (by omega), bind_s, nI_1]
      refine ih F (n + 1) _ (by omega) (by omega) (fun j hj => ?_) h2 (fun t ht => ?_)
      · show up2 T.1 17 n (-1) j = _
        rw [up2_r hj]; exact h1 j hj
      · show up2 T.1 17 n (-1) 17 t = _
        by_cases z : t = n
        · rw [z, up2_s]
        · rw [up2_n (fun y => z y.2)]; exact h3 t (by omega)
  obtain ⟨T', g1, g2, g3, g4⟩ := key 40 FU 0 S (FU_gt (by omega)) (by omega) (fun _ _ => rfl) rfl (fun t h => absurd h (Nat.not_lt_zero _))
  refine ⟨_, g1, g2, g4, ⟨?_, ?_, ?_, ?_, ?_, ?_, ?_⟩, fun k hk => ?_⟩
  · rw [pf_n (by decide), pf_n (by decide), pf_n (by decide), pf_n (by decide), pf_n (by decide), pf_n (by decide), pf_s]
  · rw [pf_n (by decide), pf_n (by decide), pf_n (by decide), pf_n (by decide), pf_n (by decide), pf_s]
  · rw [pf_n (by decide), pf_n (by decide), pf_n (by decide), pf_n (by decide), pf_s]
  · rw [pf_n (by decide), pf_n (by decide), pf_n (by decide), pf_s]
  · rw [pf_n (by decide), pf_n (by decide), pf_s]
  · rw [pf_n (by decide), pf_s]
  · rw [pf_s]
  · rw [pf_n (by omega), pf_n (by omega), pf_n (by omega), pf_n (by omega), pf_n (by omega), pf_n (by omega), pf_n (by omega), g3]
/-- what both are asked -/
def Ask (V : Vt) (w3 f4 x1 x2 : Int32) (dq : Nat → Nat) : Prop := (f4 = -1 ∧ x2 = -1 ∧ ∃ w, isW w ∧ w3 = nI w ∧ x1 = nI w ∧ dq = fun t => apart V.M w (V.W t)) ∨ ∃ f, hs V f ∧ f4 = nI f ∧ x2 = nI f ∧ dq = fun t => far V f t
theorem Ask.c {w3 f4 x1 x2 : Int32} (h : Ask V w3 f4 x1 x2 dq) : (f4 = -1 ∧ ∃ w, isW w ∧ w3 = nI w ∧ dq = fun t => apart V.M w (V.W t)) ∨ ∃ f, hs V f ∧ f4 = nI f ∧ dq = fun t => far V f t := by
  rcases h with ⟨h1, -, w, h3, h4, -, h6⟩ | ⟨f, h1, h2, -, h4⟩
  · exact Or.inl ⟨h1, w, h3, h4, h6⟩
  · exact Or.inr ⟨f, h1, h2, h4⟩
theorem Ask.r {w3 f4 x1 x2 : Int32} (h : Ask V w3 f4 x1 x2 dq) (h30 : S.2 30 = x2) (h31 : S.2 31 = x1) : Qrf S V dq := by
  rcases h with ⟨-, h2, w, h3, -, h5, h6⟩ | ⟨f, h1, -, h3, h4⟩
  · exact Or.inl ⟨h30.trans h2, w, h3, h31.trans h5, h6⟩
  · exact Or.inr ⟨f, h1, h30.trans h3, h4⟩
theorem Ask.le {w3 f4 x1 x2 : Int32} (h : Ask V w3 f4 x1 x2 dq) (hv : Vw V) (t : Nat) : dq t ≤ 99 := by
  rcases h with ⟨-, -, w, -, -, -, rfl⟩ | ⟨f, -, -, -, rfl⟩
  · have := apart_le V.M w (V.W t)
    show apart V.M w (V.W t) ≤ 99
    omega
  · exact far_le hv f t
/-- the nearest, or the farthest -/
theorem j_near {srt w3 f4 x1 x2 : Int32} {most : Nat} (J : JC σ S E L V π g) (ck : Ck σ) (hm : 1 ≤ most ∧ most ≤ 40) (hsr : srt = if fa = true then 2 else 1) (ask : Ask V w3 f4 x1 x2 dq) : ∃ σ' S' C, kX6_run σ 29 srt w3 f4 (nI most) = some (nI C.length, σ') ∧ (r_begin S x1 x2).bind (fun S3 => r_findBest S3 (nI most) (bI (fa = true))) = some S' ∧ SR L σ S σ' S' C := by
  obtain ⟨co, rt, hv, w, -⟩ := J
  obtain ⟨r, q, mo⟩ := co.2.2.2.2.1
  have ts := co.ts
  have lo := ts.2.2.2.1
  have u := w.u
  have hd := ask.le hv
  have b0 : Sb0 V g E L dq fa false most 0 := ⟨hv, w, lo, hd, hm, fun y => (by cases y), Nat.zero_le _⟩
  obtain ⟨s1, g1, g2⟩ := c_start (n := most) (most := most) (stays := false) (fa := fa) (dq := dq) (srt := srt) (w3 := w3) (f4 := f4) ts.1 ts.2.1 mo ck lo w (by rw [hsr]; cases fa <;> decide) rfl ask.c
  have cx1 : CX σ V E L dq fa false most 0 0 [] s1 (X0 V fa) := by
    obtain ⟨a1, a2, ⟨a3, b1, b2, b3, b4, b5⟩, a4⟩ := g2
    exact ⟨a1, a2, ⟨a3, b1, b2, b3, fun y => (by cases y), b5⟩, a4⟩
  -- the reference begins
  obtain ⟨S1, h1, h2, h3, ⟨h4, h5, h6, h7, h8, h9, h10⟩, h11⟩ := r_begin_eq (S := S) x1 x2
  have rt1 : RT ((pf S1 37 0).1 0) V π := by rw [pf_1, h2 0 (by decide)]; exact rt
  have rxb : RX S V π dq 0 [] (pf S1 37 0) (fun _ => false, 0, 0, [], []) := by
    refine ⟨⟨rt1, ask.r (by rw [pf_n (by decide)]; exact h8) (by rw [pf_n (by decide)]; exact h9), ⟨fun j hj => by rw [pf_1]; exact h2 j (by omega), fun k hk => by rw [pf_n (by omega)]; exact h11 k (by omega)⟩, by rw [pf_n (by decide)]; exact h10⟩, ⟨fun t ht => by rw [pf_1]; exact h3 t ht, by rw [pf_n (by decide)]; exact h5, by rw [pf_n (by decide)]; exact h6, by rw [pf_n (by decide)]; exact h7⟩, ⟨by rw [pf_n (by decide)]; exact h4, Nat.zero_le _, fun i t h => by cases h⟩, by rw [pf_s]; rfl, fun i x h => by cases h⟩
  obtain ⟨S2, k1, k2⟩ := r_queue_eq (c := V.R) (bd := if fa = true then 1000 else 0) (wy := -1) rxb (by decide) (by intro y; cases y)
  have rx2 : RX S V π dq 0 [] S2 (X0 V fa) := k2
  have pi0 : PI V g dq fa [] (X0 V fa) := by
    refine ⟨⟨by simp [X0, qpg], fun x hx => ?_⟩, List.Pairwise.nil, fun x hx => (by cases hx), ⟨List.nodup_nil, fun p hp => (by cases hp)⟩, fun x hx hr => ?_, fun t ht => (by cases ht), fun x hx => ?_⟩
    · have : x = (V.R, (if fa = true then 1000 else 0), -1) := List.mem_singleton.mp hx
      rw [this]
      exact ⟨w.1.1, by show (if fa = true then 1000 else 0) < 100000; split <;> omega⟩
    · have : x = (V.R, (if fa = true then 1000 else 0), -1) := List.mem_singleton.mp hx
      exact absurd (by rw [this]) hr
    · have : x = (V.R, (if fa = true then 1000 else 0), -1) := List.mem_singleton.mp hx
      rw [this]
      refine ⟨fun c hc => ?_, fun _ => rfl⟩
      have hc : (V.P V.R).ce = some c := hc
      rw [w.1.2] at hc; cases hc
  obtain ⟨x3, hx3⟩ : ∃ x3, r_nextWaiting S2 (bI (fa = true)) = some x3 := by
    rcases r_next (fa := fa) rx2.1.1 w pi0.1 rx2.2.2.2 with ⟨-, v⟩ | ⟨j, -, v⟩
    · exact ⟨_, v⟩
    · exact ⟨_, v⟩
  obtain ⟨σ', S', X', T', lk', m1, m2, m3, m4, m5⟩ := j_best b0 V.U FU FU 0 s1 S2 (X0 V fa) [] 0 x3 (FU_gt (by omega)) (FU_gt (by omega)) (by omega) rfl cx1 rx2 pi0 hx3
  obtain ⟨⟨st, tv, mo', ck', sf, qc⟩, ⟨kv, n1, n2, n3⟩, ⟨cf, cl⟩, wv⟩ := m3
  obtain ⟨⟨rt', qr, rz, s33⟩, ⟨kr, p1, p2, p3⟩, rf, wq⟩ := m4
  have tl : (X'.2.2.2.1.take most).length = min most X'.2.2.2.1.length := List.length_take
  refine ⟨σ', pf S' 32 (nI (min X'.2.2.2.1.length most)), X'.2.2.2.1.take most, ?_, ?_, ⟨X'.2.1, X'.2.2.1, lk', ⟨qc.1, by rw [pf_n (by decide)]; exact s33⟩, by omega, ⟨cf.1, by rw [pf_s, tl, Nat.min_comm]⟩, ⟨n1, by rw [pf_n (by decide)]; exact p1⟩, ⟨n2, by rw [pf_n (by decide)]; exact p2⟩, ⟨n3, by rw [pf_n (by decide)]; exact p3⟩, fun i t hi => ⟨(m5.2.2.1 t (List.mem_of_mem_take (List.mem_of_getElem? hi))).1.1, (cf.2.2 i t hi).1, ?_⟩⟩, sf, mo', rz.tr ⟨fun j _ => by rw [pf_1], fun k hk => pf_n (by omega)⟩⟩
  · rw [g1]; exact m1
  · rw [h1, bind_s]
    unfold r_findBest r_findBest_23
    have r2 : rd (pf S1 37 0) 0 2 = some (nI (π V.R)) := by
      rw [show (2 : Int32) = nI 2 from rfl, rd_r0 (by omega)]
      exact congrArg some rt1.2.1
    rw [r2, bind_s, bI_0']
    cases fa with
    | false =>
      rw [if_pos (by decide)]
      have k1 : r_queue (pf S1 37 0) (nI (π V.R)) 0 (-1) = some S2 := k1
      rw [k1, bind_s, hx3, bind_s]; exact m2
    | true =>
      rw [if_neg (by decide)]
      have k1 : r_queue (pf S1 37 0) (nI (π V.R)) 1000 (-1) = some S2 := k1
      rw [k1, bind_s, hx3, bind_s]; exact m2
  · rw [pf_1]
    have := List.getElem?_take (l := X'.2.2.2.1) (i := most) (j := i)
    rw [hi] at this
    split at this
    · exact rf.2.2 i t this.symm
    · cases this
end NEARJ
