section WITHINJ
variable {σ : Hp} {S : MS} {V : Vt} {g : Gh} {π : Nat → Nat} {E : Nat} {L : List Nat} {dq : Nat → Nat}
/-- those within -/
theorem j_within {w3 f4 x1 x2 : Int32} {r : Nat} (J : JC σ S E L V π g) (ck : Ck σ) (hr : r ≤ 99) (ask : Ask V w3 f4 x1 x2 dq) : ∃ σ' S' C, kX6_run σ 29 0 w3 f4 (nI r) = some (nI C.length, σ') ∧ (r_begin S x1 x2).bind (fun S3 => r_findWithin S3 (nI r)) = some S' ∧ SR L σ S σ' S' C := by
  obtain ⟨co, rt, hv, w, -⟩ := J
  obtain ⟨r', q, mo⟩ := co.2.2.2.2.1
  have ts := co.ts
  have lo := ts.2.2.2.1
  have u := w.u
  have hd := ask.le hv
  have b0 : Sb0 V g E L dq false true 40 r := ⟨hv, w, lo, hd, by omega, fun _ => rfl, hr⟩
  obtain ⟨s1, g1, g2⟩ := c_start (n := r) (most := 40) (stays := true) (fa := false) (dq := dq) (srt := 0) (w3 := w3) (f4 := f4) ts.1 ts.2.1 mo ck lo w (by decide) rfl ask.c
  have X0R : ∀ x ∈ (X0 V false).2.2.2.2, x = (V.R, 0, -1) := fun x hx => List.mem_singleton.mp hx
  have pi0 : PI V g dq false [] (X0 V false) := by
    refine ⟨⟨by simp [X0, qpg], fun x hx => ?_⟩, List.Pairwise.nil, fun x hx => (by cases hx), ⟨List.nodup_nil, fun p hp => (by cases hp)⟩, fun x hx hr => ?_, fun t ht => (by cases ht), fun x hx => ?_⟩
    · rw [X0R x hx]; exact ⟨w.1.1, by show 0 < 100000; omega⟩
    · exact absurd (by rw [X0R x hx]) hr
    · rw [X0R x hx]
      refine ⟨fun c hc => ?_, fun _ => rfl⟩
      have hc : (V.P V.R).ce = some c := hc
      rw [w.1.2] at hc; cases hc
  have noEX : ∀ P, ¬ EX V (fun _ => 0) P := fun P ⟨q, j, e, h, _⟩ => Nat.not_lt_zero _ h
  have z0 : ∀ n, su (fun t => if (fun _ : Nat => false) t = true then 1 else 0) n = 0 := fun n => by
    induction n with
    | zero => rfl
    | succ n ih => show su _ n + _ = 0; rw [ih]; rfl
  have z1 : ∀ n, su (fun p => nsp V dq r p 0) n = 0 := fun n => by
    induction n with
    | zero => rfl
    | succ n ih => show su _ n + _ = 0; rw [ih]; rfl
  have wi0 : WI V dq r (fun _ => 0) (X0 V false) := by
    refine ⟨⟨pi0.1.1, fun p hp => ?_, fun _ _ => rfl⟩, fun x => ?_, fun t => ⟨fun h => (by cases h), fun h => absurd h (noEX _)⟩, ⟨(z0 40).symm, (z1 V.U).symm⟩, fun t => ⟨fun h => (by cases h), fun h => absurd h (noEX _)⟩, List.Pairwise.nil⟩
    · obtain ⟨x, hx, rfl⟩ := List.mem_map.mp hp
      rw [X0R x hx]; exact w.1.1
    · constructor
      · intro h
        obtain ⟨y, hy, rfl⟩ := List.mem_map.mp h
        rw [X0R y hy]; exact Or.inl rfl
      · rintro (h | h)
        · rw [h]; exact List.mem_map.mpr ⟨(V.R, 0, -1), List.mem_singleton.mpr rfl, rfl⟩
        · exact absurd h (noEX _)
  obtain ⟨σ', X1, T1, pr1, k1, k2, k3, k4, k5⟩ := c_wloop b0 V.U FU 0 s1 (X0 V false) [] (fun _ => 0) (FU_gt (by omega)) (by omega) rfl g2 pi0 wi0 (fun p hp => by cases hp) (fun _ _ => rfl) (fun x hx => by rw [X0R x hx]; exact Nat.zero_le _)
  -- the reference
  obtain ⟨S1, h1, h2, h3, ⟨h4, h5, h6, h7, h8, h9, h10⟩, h11⟩ := r_begin_eq (S := S) x1 x2
  have rt1 : RT (S1.1 0) V π := by rw [h2 0 (by decide)]; exact rt
  have r2 : rd S1 0 2 = some (nI (π V.R)) := by
    rw [show (2 : Int32) = nI 2 from rfl, rd_r0 (by omega)]
    exact congrArg some rt1.2.1
  obtain ⟨A, hA⟩ : ∃ A : MS, pf (up2 (up2 S1.1 4 0 (nI (π V.R))) 5 0 0, S1.2) 29 1 = A := ⟨_, rfl⟩
  have A1 : ∀ j, j ≠ 4 → j ≠ 5 → A.1 j = S1.1 j := fun j a b => by rw [← hA, pf_1]; show up2 (up2 S1.1 4 0 (nI (π V.R))) 5 0 0 j = S1.1 j; rw [up2_r b, up2_r a]
  have A2 : ∀ k, k ≠ 29 → A.2 k = S1.2 k := fun k hk => by rw [← hA, pf_n hk]
  have A3 : A.1 4 0 = nI (π V.R) ∧ A.1 5 0 = nI 0 ∧ A.2 29 = nI 1 := by
    rw [← hA]
    refine ⟨?_, ?_, ?_⟩
    · rw [pf_1]; show up2 (up2 S1.1 4 0 (nI (π V.R))) 5 0 0 4 0 = nI (π V.R); rw [up2_j (by decide), up2_s]
    · rw [pf_1]; show up2 (up2 S1.1 4 0 (nI (π V.R))) 5 0 0 5 0 = nI 0; rw [up2_s]; rfl
    · rw [pf_s]; rfl
  have rv0 : RV S V π dq A (X0 V false) := by
    refine ⟨⟨by rw [A1 0 (by decide) (by decide)]; exact rt1, ask.r (by rw [A2 30 (by decide)]; exact h8) (by rw [A2 31 (by decide)]; exact h9), ⟨fun j hj => (A1 j (by omega) (by omega)).trans (h2 j (by omega)), fun k hk => (A2 k (by omega)).trans (h11 k (by omega))⟩, by rw [A2 33 (by decide)]; exact h10⟩, ⟨fun t ht => by rw [A1 17 (by decide) (by decide)]; exact h3 t ht, by rw [A2 27 (by decide)]; exact h5, by rw [A2 28 (by decide)]; exact h6, A3.2.2⟩, by rw [A2 26 (by decide)]; exact h4, Nat.zero_le _, fun i t h => by cases h⟩
  have l7 : ∀ p, p < V.U → (V.P p).es.length ≤ 7 := fun p hp => w.len hv hp
  have sl : su (fun p => (V.P p).es.length - 0) V.U ≤ 780 * 7 := by
    have a := su_mono (f := fun p => (V.P p).es.length - 0) (h := fun _ => 7) V.U (fun i hi => by show (V.P i).es.length - 0 ≤ 7; have := l7 i hi; omega)
    have b := su_le (f := fun _ => 7) (c := 7) (fun _ => Nat.le_refl _) V.U
    have c : V.U * 7 ≤ 780 * 7 := Nat.mul_le_mul_right 7 u
    omega
  obtain ⟨S', X2, pr2, m1, m2, m3, m4⟩ := r_wloop (S0 := S) (π := π) hv w hd hr 20000 FU A (X0 V false) (fun _ => 0) [(V.R, 0)] (FU_gt (by omega)) (by rw [List.length_singleton]; omega) rv0 (fun j x hj => by
    cases j with
    | zero =>
      have : (V.R, 0) = x := by simpa using hj
      rw [← this]; exact ⟨A3.1, A3.2.1⟩
    | succ j => simp at hj) rfl wi0 (fun y hy => by
      rw [List.mem_singleton.mp hy]
      exact ⟨List.mem_map.mpr ⟨(V.R, 0, -1), List.mem_singleton.mpr rfl, rfl⟩, rfl, Nat.zero_le _⟩) (fun p hp hn => by
      obtain ⟨x, hx, rfl⟩ := List.mem_map.mp hp
      exact absurd (by rw [X0R x hx]) (hn (V.R, 0) (List.mem_singleton.mpr rfl)))
  obtain ⟨e1, e2, e3, e4, e5⟩ := WI.uniq w k4 m3 k5 m4
  obtain ⟨⟨st, tv, mo', ck', sf, qc⟩, ⟨kv, n1, n2, n3⟩, ⟨cf, cl⟩, wv⟩ := k2
  obtain ⟨⟨rt', qr, rz, s33⟩, ⟨kr, p1, p2, p3⟩, rf⟩ := m2
  have R40 : X1.2.2.2.1.length ≤ 40 := by rw [e4]; exact rf.2.1
  have tk : X1.2.2.2.1.take 40 = X1.2.2.2.1 := List.take_of_length_le R40
  rw [tk] at cf k1
  refine ⟨σ', pf S' 32 (nI X2.2.2.2.1.length), X1.2.2.2.1, by rw [g1]; exact k1, ?_, ⟨X1.2.1, X1.2.2.1, X1.2.2.2.2.length, ⟨qc.1, by rw [pf_n (by decide)]; exact s33⟩, R40, ⟨cf.1, by rw [pf_s, e4]⟩, ⟨n1, by rw [pf_n (by decide), e2]; exact p1⟩, ⟨n2, by rw [pf_n (by decide), e3]; exact p2⟩, ⟨n3, by rw [pf_n (by decide), e5]; exact p3⟩, fun i t hi => ⟨(k3.2.2.1 t (List.mem_of_getElem? hi)).1.1, (cf.2.2 i t hi).1, by rw [pf_1]; exact rf.2.2 i t (by rw [← e4]; exact hi)⟩⟩, sf, mo', rz.tr ⟨fun j _ => by rw [pf_1], fun k hk => pf_n (by omega)⟩⟩
  rw [h1, bind_s]
  unfold r_findWithin
  have zz : nI ([(V.R, 0)] : List (Nat × Nat)).length - 1 = 0 := by
    show nI 1 - 1 = 0
    decide
  rw [zz] at m1
  rw [r2, bind_s, show (0 : Int32) = nI 0 from rfl, wr_ok (by rw [len45.1]; omega) (by omega), bind_s, wr_ok (by rw [len45.2]; omega) (by omega), bind_s]
  show r_findWithin_26 FU (nI r) 0 (pf (up2 (up2 S1.1 4 0 (nI (π V.R))) 5 0 0, S1.2) 29 1) = _
  rw [hA, m1]
end WITHINJ
