section BESTRUN
variable {σ0 : Hp} {S0 : MS} {V : Vt} {g : Gh} {π : Nat → Nat} {E : Nat} {L : List Nat} {dq : Nat → Nat} {fa : Bool} {most : Nat}
theorem r_look {T : List Nat} {lk p : Nat} {way : Int32} (hv : Vw V) (w : Wf V g V.U) (hd : ∀ t, dq t ≤ 99) (hm : 1 ≤ most ∧ most ≤ 40) (hp : p < V.U) (pT : p ∈ T) (hway : (∀ c, (V.P p).ce = some c → way = nI (dq c)) ∧ ((V.P p).ce = none → way = -1)) : ∀ (m F k : Nat) (S : MS) (X X' : Xs), m < F → k + m = (V.P p).es.length → RX S0 V π dq lk T S X → PI V g dq fa T X → ((V.P p).lf = true → ∀ e ∈ (V.P p).es.drop k, e.1 ∉ X.2.2.2.1) → ((V.P p).lf = false → ∀ e ∈ (V.P p).es.drop k, e.2.2 ∉ qpg X.2.2.2.2 ∧ e.2.2 ∉ T) → Sts V dq fa false most 0 p ((V.P p).es.drop k) X X' → ∃ S', r_lookInto_13 F (nI (π p)) way (nI most) (bI (fa = true)) (nI k) S = some S' ∧ RX S0 V π dq lk T S' X'
  | m, 0, _, _, _, _, h, _, _, _, _, _, _ => absurd h (Nat.not_lt_zero m)
  | 0, F + 1, k, S, X, X', _, hk, rx, _, _, _, s => by
    have u := w.u
    obtain ⟨p1, rp⟩ := rx.1.1.2.2.1 p hp
    have l7 := rp.2.2
    rw [List.length_map] at l7
    rw [List.drop_eq_nil_of_le (by omega)] at s
    have s : X' = X := s
    rw [r_lookInto_13.eq_2, rp.n (by omega), bind_s, List.length_map, if_pos (nI_le (by omega) (by omega)), s]
    exact ⟨S, rfl, rx⟩
  | m + 1, F + 1, k, S, X, X', hF, hk, rx, pi, hlf, hin, s => by
    obtain ⟨e, he⟩ : ∃ e, (V.P p).es[k]? = some e := ⟨_, List.getElem?_eq_getElem (by omega)⟩
    have dr : (V.P p).es.drop k = e :: (V.P p).es.drop (k + 1) := by
      rw [List.drop_eq_getElem_cons (List.getElem?_eq_some_iff.mp he).1]
      congr 1
      exact (List.getElem?_eq_some_iff.mp he).2
    rw [dr] at s hlf hin
    obtain ⟨X1, s1, s2⟩ := s
    have hse := ((w.2.1 p hp).2.1 e (List.mem_of_getElem? he)).1
    obtain ⟨S1, g1, g2⟩ := r_entry1 (F := F) rx pi hv w hd hm hp he hway (fun y => hlf y e (List.mem_cons_self ..)) (fun y => hin y e (List.mem_cons_self ..)) s1
    have pi1 := pi.step w hd hp pT (List.mem_of_getElem? he) (fun y => (hin y e (List.mem_cons_self ..)).1) s1
    obtain ⟨r1, r2⟩ := s1.R pi.2.1
    have ndr : ∀ f ∈ (V.P p).es.drop (k + 1), ((V.P p).lf = true → f.1 ≠ e.1) ∧ ((V.P p).lf = false → f.2.2 ≠ e.2.2) := fun f hf => by
      obtain ⟨j, hj⟩ := List.mem_iff_getElem?.mp hf
      rw [List.getElem?_drop] at hj
      refine ⟨fun y z => ?_, fun y z => ?_⟩
      · have := nd_eq ((w.2.1 p hp).2.2.1.2 y) (i := k) (j := k + 1 + j) (a := e.1) (by rw [List.getElem?_map, he]; rfl) (by rw [List.getElem?_map, hj, ← z]; rfl)
        omega
      · have := nd_eq ((w.2.1 p hp).2.2.1.1 y) (i := k) (j := k + 1 + j) (a := e.2.2) (by rw [List.getElem?_map, he]; rfl) (by rw [List.getElem?_map, hj, ← z]; rfl)
        omega
    obtain ⟨S2, k1, k2⟩ := r_look hv w hd hm hp pT hway m F (k + 1) S1 X1 X' (by omega) (by omega) g2 pi1 (fun y f hf z => by
      rcases r2 _ z with v | ⟨-, v, -⟩
      · exact hlf y f (List.mem_cons_of_mem _ hf) v
      · exact (ndr f hf).1 y v) (fun y f hf => by
      have old := hin y f (List.mem_cons_of_mem _ hf)
      refine ⟨fun z => ?_, old.2⟩
      rcases s1.Q with v | ⟨-, -, v⟩
      · rw [v] at z; exact old.1 z
      · rw [v] at z
        unfold qpg at z
        rw [List.map_append, List.mem_append] at z
        rcases z with z | z
        · exact old.1 z
        · exact (ndr f hf).2 y (List.mem_singleton.mp z)) s2
    exact ⟨S2, by rw [g1, k1], k2⟩
/-- what is so when a page is about to be gone into -/
theorem PI.go {T : List Nat} {X : Xs} {i : Nat} {x : Qi} (h : PI V g dq fa T X) (w : Wf V g V.U) (hx : X.2.2.2.2[i]? = some x) (hT : x.1 ∉ T) : PI V g dq fa (x.1 :: T) X ∧ (∀ c, (V.P x.1).ce = some c → X.1 c = true) ∧ ((V.P x.1).lf = true → ∀ e ∈ (V.P x.1).es, e.1 ∉ X.2.2.2.1) ∧ ((V.P x.1).lf = false → ∀ e ∈ (V.P x.1).es, e.2.2 ∉ qpg X.2.2.2.2 ∧ e.2.2 ∉ x.1 :: T) := by
  obtain ⟨h1, h2, h3, ⟨h4, h5⟩, h6, h7, h8⟩ := h
  have xm := List.mem_of_getElem? hx
  have xU := (h1.2 x xm).1
  refine ⟨⟨h1, h2, h3, ⟨List.nodup_cons.mpr ⟨hT, h4⟩, fun p hp => ?_⟩, fun y hy hr => List.mem_cons_of_mem _ (h6 y hy hr), fun t ht => ?_, h8⟩, fun c hc => ((h8 x xm).1 c hc).1, fun hl e he z => ?_, fun hl e he => ?_⟩
  · rcases List.mem_cons.mp hp with rfl | hp
    · exact List.mem_map.mpr ⟨x, xm, rfl⟩
    · exact h5 p hp
  · obtain ⟨p, p1, p2⟩ := h7 t ht
    exact ⟨p, List.mem_cons_of_mem _ p1, p2⟩
  · obtain ⟨p, p1, p2⟩ := h7 e.1 z
    have := ((w.2.1 x.1 xU).2.1 e he).2.2.2 hl
    rw [p2] at this
    cases this
    exact hT p1
  · obtain ⟨c1, c2, c3, c4, c5⟩ := ((w.2.1 x.1 xU).2.1 e he).2.2.1 hl
    have nq : e.2.2 ∉ qpg X.2.2.2.2 := fun z => by
      obtain ⟨y, hy, hy2⟩ := List.mem_map.mp z
      have hy2 : y.1 = e.2.2 := hy2
      have := h6 y hy (by rw [hy2]; exact c5)
      rw [hy2, c4] at this
      exact hT this
    refine ⟨nq, fun z => ?_⟩
    rcases List.mem_cons.mp z with z | z
    · rw [z] at c2; omega
    · exact nq (h5 _ z)
/-- the page leaves the waiting ones -/
theorem WV.go {σ : Hp} {U : Nat} {Q : List Qi} {T : List Nat} {p a lk : Nat} (h : WV σ L U fa Q T) (nd : L.Nodup) (n29 : ∀ a ∈ L, a ≠ 29) (ha : L[p]? = some a) : WV (sfi (sfi σ 311 a 0) 616 29 (nI lk)) L U fa Q (p :: T) := by
  obtain ⟨w1, w2, w3⟩ := h
  have a29 := n29 a (List.mem_of_getElem? ha)
  refine ⟨by rw [fi_sfi, if_neg (by omega), fi_sfi, if_neg (by omega)]; exact w1, fun p' b hp' hb => ?_, fun i x b hx hb => ?_⟩
  · have b29 := n29 b (List.mem_of_getElem? hb)
    rw [fi_sfi, if_neg (by omega), fi_sfi]
    by_cases z : b = a
    · have : p' = p := nd_eq nd hb (z ▸ ha)
      rw [if_pos ⟨rfl, z⟩, bI_f (fun y => y.2 (by rw [this]; exact List.mem_cons_self ..))]
    · have pp : p' ≠ p := fun y => z (by rw [y, ha] at hb; cases hb; rfl)
      rw [if_neg (fun y => z y.2), w2 p' b hp' hb]
      by_cases y : p' ∈ qpg Q ∧ p' ∉ T
      · rw [bI_t y, bI_t ⟨y.1, fun v => by rcases List.mem_cons.mp v with v | v; exact pp v; exact y.2 v⟩]
      · rw [bI_f y, bI_f (fun v => y ⟨v.1, fun t => v.2 (List.mem_cons_of_mem _ t)⟩)]
  · have b29 := n29 b (List.mem_of_getElem? hb)
    rw [fi_sfi, if_neg (by omega), fi_sfi, if_neg (by omega), fi_sfi, if_neg (by omega), fi_sfi, if_neg (by omega)]
    exact w3 i x b hx hb
theorem CX.go {σ : Hp} {stays : Bool} {lim lk : Nat} {T : List Nat} {X : Xs} {p a : Nat} (h : CX σ0 V E L dq fa stays most lim lk T σ X) (lo : Lo E L) (ha : L[p]? = some a) : CX σ0 V E L dq fa stays most lim (lk + 1) (p :: T) (sfi (sfi σ 311 a 0) 616 29 (nI (lk + 1))) X := by
  obtain ⟨⟨st, tv, ⟨r, q, mo⟩, ck, sf, qc⟩, ⟨kv, n1, n2, n3⟩, ⟨cf, cl⟩, wv⟩ := h
  have aL := List.mem_of_getElem? ha
  have n29 : ∀ a ∈ L, a ≠ 29 := fun a ha => by
    have := lo a (Or.inr (Or.inr ⟨a, ha, Nat.le_refl _, Nat.le_add_right _ _⟩))
    omega
  have a29 := n29 a aL
  have sf1 : Sf L σ (sfi (sfi σ 311 a 0) 616 29 (nI (lk + 1))) := (Sf.p (by omega) aL).tr Sf.o
  have f29 : ∀ i, i ≠ 616 → (sfi (sfi σ 311 a 0) 616 29 (nI (lk + 1))).fi i 29 = σ.fi i 29 := fun i hi => by
    rw [fi_sfi, if_neg (by omega), fi_sfi, if_neg (by omega)]
  exact ⟨⟨st.sf lo sf1, tv.sf sf1, ⟨r, q, mo⟩, ck.sf sf1, sf.tr sf1, qc.cg (f29 _ (by decide)) (f29 _ (by decide)) (f29 _ (by decide))⟩, ⟨kv, by rw [f29 _ (by decide)]; exact n1, by rw [f29 _ (by decide)]; exact n2, by rw [fi_sfi, if_pos ⟨rfl, rfl⟩]⟩, ⟨cf.cg (f29 _ (by decide)) rfl rfl, cl.cg (fun i h1 h2 => f29 i (by omega))⟩, wv.go st.2.2.2.1 n29 ha⟩
theorem j_best (b0 : Sb0 V g E L dq fa false most 0) : ∀ (m F F' n : Nat) (σ : Hp) (S : MS) (X : Xs) (T : List Nat) (lk : Nat) (x3 : Int32), m < F → m < F' → n + m = V.U → T.length = n → CX σ0 V E L dq fa false most 0 lk T σ X → RX S0 V π dq lk T S X → PI V g dq fa T X → r_nextWaiting S (bI (fa = true)) = some x3 → ∃ σ' S' X' T' lk', kX6_run_168 F 29 (nI n) σ = some (nI (X'.2.2.2.1.take most).length, σ') ∧ r_findBest_33 F' (nI most) (bI (fa = true)) x3 S = some (pf S' 32 (nI (min X'.2.2.2.1.length most))) ∧ CX σ0 V E L dq fa false most 0 lk' T' σ' X' ∧ RX S0 V π dq lk' T' S' X' ∧ PI V g dq fa T' X'
  | m, 0, _, _, _, _, _, _, _, _, h, _, _, _, _, _, _, _ => absurd h (Nat.not_lt_zero m)
  | m, F + 1, 0, _, _, _, _, _, _, _, _, h, _, _, _, _, _, _ => absurd h (Nat.not_lt_zero m)
  | m, F + 1, F' + 1, n, σ, S, X, T, lk, x3, hF, hF', hn, hT, cx, rx, pi, hx3 => by
    obtain ⟨hv, w, lo, hd, hm, hs, hl⟩ := id b0
    have u := w.u
    have ql := pi.1.len w
    obtain ⟨⟨st, tv, ⟨r, q, mo⟩, ck, sf, qc⟩, ⟨kv, n1, n2, n3⟩, ⟨cf, cl⟩, wv⟩ := id cx
    obtain ⟨⟨rt, qr, rz, s33⟩, ⟨kr, m1, m2, m3⟩, rf, wq⟩ := id rx
    have R40 := rf.2.1
    have ends : ∃ S', r_findBest_121 (nI most) S = some (pf S' 32 (nI (min X.2.2.2.1.length most))) ∧ RX S0 V π dq lk T S' X := ⟨S, by
      unfold r_findBest_121
      rw [rf.1, r_lesser_eq (by omega) (by omega), bind_s], rx⟩
    obtain ⟨Se, e1, e2⟩ := ends
    have cend : ∀ σ1 : Hp, σ1 = σ → (gfi σ1 16 613 29).bind (fun v3 => some (v3, σ1)) = some (nI (X.2.2.2.1.take most).length, σ) := fun σ1 h => by
      rw [h, ck.i, bind_s, cf.1]
    rcases r_next (fa := fa) rt w pi.1 wq with ⟨a1, a2⟩ | ⟨i, nx, a2⟩
    · rw [a2] at hx3
      cases hx3
      refine ⟨σ, Se, X, T, lk, ?_, ?_, cx, e2, pi⟩
      · rw [kX6_run_168.eq_2, ck.s, bind_s, st.u, bind_s]
        by_cases z : V.U ≤ n
        · rw [if_pos (nI_le z (by omega)), cend σ rfl]
        · rw [if_neg (nI_ge (by omega) (by omega)), ck.c]
          rcases c_next st lo ck w pi.1 wv with ⟨b1, b2⟩ | ⟨i, x, a, ⟨⟨y, y1, y2⟩, -⟩, -⟩
          · rw [b2, bind_s, if_pos rfl, cend σ rfl]
          · exact absurd (a1 y (List.mem_of_getElem? y1)) y2
      · rw [r_findBest_33.eq_2, if_pos rfl]
        exact e1
    · rw [a2] at hx3
      cases hx3
      obtain ⟨⟨x, hx, xT⟩, -⟩ := id nx
      have xm := List.mem_of_getElem? hx
      have xU := (pi.1.2 x xm).1
      have xb := (pi.1.2 x xm).2
      have il := (List.getElem?_eq_some_iff.mp hx).1
      obtain ⟨a, ha, pca, -⟩ := st.pg xU
      obtain ⟨pi2, gK, glf, gin⟩ := pi.go w hx xT
      have TU : T.length + 1 ≤ V.U := by
        have := nd_len V.U (x.1 :: T) pi2.2.2.2.1.1 (fun p hp => by
          rcases List.mem_cons.mp hp with rfl | hp
          · exact xU
          · obtain ⟨y, hy, rfl⟩ := List.mem_map.mp (pi.2.2.2.1.2 p hp)
            exact (pi.1.2 y hy).1)
        rwa [List.length_cons] at this
      have nxt : kX6_nextPage σ 29 = some a := by
        rcases c_next st lo ck w pi.1 wv with ⟨b1, -⟩ | ⟨j, y, b, nj, y1, y2, -, y4⟩
        · exact absurd (b1 x xm) xT
        · have := nx.uniq nj
          subst this
          rw [hx] at y1
          cases y1
          rw [ha] at y2
          cases y2
          exact y4
      have a0 : a ≠ 0 := by
        have := lo a (Or.inr (Or.inr ⟨a, List.mem_of_getElem? ha, Nat.le_refl _, Nat.le_add_right _ _⟩))
        omega
      obtain ⟨y1, y2⟩ := c_beyond (R := X.2.2.2.1) ck cf cl hd hm hs hl (b := x.2.1) (by omega)
      have l99 : ∀ l, lmt dq false most 0 X.2.2.2.1 = some l → l ≤ 99 := fun l hl => lmt_le hd hl (by omega)
      have chead : ∀ Y, (byd fa (lmt dq false most 0 X.2.2.2.1) x.2.1 → Y = some (nI (X.2.2.2.1.take most).length, σ)) → (¬ byd fa (lmt dq false most 0 X.2.2.2.1) x.2.1 → Y = (kX6_goInto (sfi (sfi σ 311 a 0) 616 29 (nI (lk + 1))) 29 a).bind (fun σ11 => kX6_run_168 F 29 (nI (n + 1)) σ11)) → kX6_run_168 (F + 1) 29 (nI n) σ = Y := fun Y h1 h2 => by
        rw [kX6_run_168.eq_2, ck.s, bind_s, st.u, bind_s, if_neg (nI_ge (by omega) (by omega)), ck.c, nxt, bind_s, if_neg a0, gfi_ok pca.1.1, bind_s, (wv.2.2 i x a hx ha).1, ck.c]
        by_cases z : byd fa (lmt dq false most 0 X.2.2.2.1) x.2.1
        · rw [y1 z, bind_s, if_neg (by decide), cend σ rfl, h1 z]
        · have a29 : a ≠ 29 := by
            have := lo a (Or.inr (Or.inr ⟨a, List.mem_of_getElem? ha, Nat.le_refl _, Nat.le_add_right _ _⟩))
            omega
          have k0 : pfz σ 13 311 a 0 = some (sfi σ 311 a 0) := pfz_0 pca.1.1
          have ck8 : Ck (sfi σ 311 a 0) := ck
          have ck9 : Ck (sfi (sfi σ 311 a 0) 616 29 (nI (lk + 1))) := ck
          rw [y2 z, bind_s, if_pos rfl, k0, bind_s, ck8.i, bind_s, fi_sfi, if_neg (by omega), n3, ck8.pf, bind_s, nI_1, ck9.c, nI_1, h2 z]
      have rhead : ∀ Y, (byd fa (lmt dq false most 0 X.2.2.2.1) x.2.1 → Y = r_findBest_121 (nI most) S) → (¬ byd fa (lmt dq false most 0 X.2.2.2.1) x.2.1 → Y = r_findBest_83 (r_findBest_33 F') (nI most) (bI (fa = true)) (nI i) S) → r_findBest_33 (F' + 1) (nI most) (bI (fa = true)) (nI i) S = Y := fun Y h1 h2 => by
        have r20 : rd S 20 (nI i) = some (nI x.2.1) := by rw [rd_ok (by rw [len17.2.2.2.1]; omega) (by omega), (wq.2 i x hx).2.1]
        rw [r_findBest_33.eq_2, if_neg (fun z => (nI_m1 (by omega)).mp z), r_limit kr rf pi.2.2.1 hm, bind_s, r20, bind_s, bind_s, bI_0']
        unfold byd at h1 h2
        cases ql : lmt dq false most 0 X.2.2.2.1 with
        | none =>
          rw [ql] at h2
          rw [if_pos (show o2i none = -1 from rfl), h2 (fun ⟨l, h, _⟩ => by cases h)]
        | some l =>
          have l9 := l99 l ql
          rw [ql] at h1 h2
          rw [if_neg (show ¬ o2i (some l) = -1 from fun y => (nI_m1 (by omega)).mp y)]
          show (if _ then if nI x.2.1 ≤ nI l then _ else _ else if nI l ≤ nI x.2.1 then _ else _) = Y
          cases fa with
          | false =>
            rw [if_pos (by decide)]
            by_cases z : x.2.1 ≤ l
            · rw [if_pos (nI_le z (by omega)), h2 (fun ⟨l', h, k⟩ => by cases h; rw [ba_f] at k; omega)]
            · rw [if_neg (nI_ge (by omega) (by omega)), h1 ⟨l, rfl, by rw [ba_f]; omega⟩]
          | true =>
            rw [if_neg (by decide)]
            by_cases z : l ≤ x.2.1
            · rw [if_pos (nI_le z (by omega)), h2 (fun ⟨l', h, k⟩ => by cases h; rw [ba_t] at k; omega)]
            · rw [if_neg (nI_ge (by omega) (by omega)), h1 ⟨l, rfl, by rw [ba_t]; omega⟩]
      by_cases z : byd fa (lmt dq false most 0 X.2.2.2.1) x.2.1
      · exact ⟨σ, Se, X, T, lk, chead _ (fun _ => rfl) (fun y => absurd z y), rhead _ (fun _ => e1.symm) (fun y => absurd z y), cx, e2, pi⟩
      · -- both go into the page
        have cx2 := cx.go lo ha
        have l7 := pca.le
        obtain ⟨s3, X3, g1, g2, g3⟩ := c_goInto b0 xU ha (V.P x.1).es.length FU 0 _ X (FU_gt (by omega)) (by omega) cx2 gK pi.2.1 (fun t ht => (pi.2.2.1 t ht).1.1) (by rw [List.drop_zero]; exact glf) (by rw [List.drop_zero]; exact gin)
        rw [List.drop_zero] at g2
        have pi3 := PI.steps w hd xU (List.mem_cons_self ..) 0 _ X X3 (List.drop_zero).symm pi2 (fun y e he => (gin y e he).1) g2
        -- the reference
        have w19 : rd S 19 (nI i) = some (nI (π x.1)) := by rw [rd_ok (by rw [len17.2.2.1]; omega) (by omega), (wq.2 i x hx).1, if_neg xT]
        obtain ⟨S3, hS3⟩ : ∃ S3 : MS, ((up2 S.1 19 i (-1), S.2) : MS) = S3 := ⟨_, rfl⟩
        have a3 : ∀ j, j ≠ 19 → S3.1 j = S.1 j := fun j hj => by rw [← hS3]; exact up2_r hj
        have b3 : S3.2 = S.2 := by rw [← hS3]
        have way : rd S3 21 (nI i) = some x.2.2 := by rw [rd_ok (by rw [len17.2.2.2.2]; omega) (by omega), a3 21 (by decide), (wq.2 i x hx).2.2]
        have rx3 : RX S0 V π dq (lk + 1) (x.1 :: T) (pf S3 29 (nI (lk + 1))) X := by
          refine ⟨⟨by rw [pf_1, a3 0 (by decide)]; exact rt, ?_, rz.tr ⟨fun j hj => by rw [pf_1]; exact a3 j (by omega), fun k hk => by rw [pf_n (by omega), b3]⟩, by rw [pf_n (by decide), b3]; exact s33⟩, ⟨fun t ht => by rw [pf_1, a3 17 (by decide)]; exact kr t ht, by rw [pf_n (by decide), b3]; exact m1, by rw [pf_n (by decide), b3]; exact m2, by rw [pf_s]⟩, ⟨by rw [pf_n (by decide), b3]; exact rf.1, rf.2.1, fun i t hi => by rw [pf_1, a3 18 (by decide)]; exact rf.2.2 i t hi⟩, by rw [pf_n (by decide), b3]; exact wq.1, fun j y hj => ?_⟩
          · unfold Qrf; rw [pf_n (by decide), pf_n (by decide), b3]; exact qr
          · obtain ⟨c1, c2, c3⟩ := wq.2 j y hj
            rw [pf_1, a3 20 (by decide), a3 21 (by decide)]
            refine ⟨?_, c2, c3⟩
            rw [← hS3]
            show up2 S.1 19 i (-1) 19 j = _
            by_cases v : j = i
            · subst v
              rw [hx] at hj
              cases hj
              rw [up2_s, if_pos (List.mem_cons_self ..)]
            · rw [up2_n (fun t => v t.2), c1]
              have ne : y.1 ≠ x.1 := fun t => v (nd_eq pi.1.1 (i := j) (j := i) (a := x.1) (by unfold qpg; rw [List.getElem?_map, hj, ← t]; rfl) (by unfold qpg; rw [List.getElem?_map, hx]; rfl))
              by_cases t : y.1 ∈ T
              · rw [if_pos t, if_pos (List.mem_cons_of_mem _ t)]
              · rw [if_neg t, if_neg (fun s => by rcases List.mem_cons.mp s with s | s; exact ne s; exact t s)]
        have h8 := pi.2.2.2.2.2.2 x xm
        obtain ⟨S4, f1, f2⟩ := r_look (way := x.2.2) hv w hd hm xU (List.mem_cons_self ..) ⟨fun c hc => (h8.1 c hc).2, h8.2⟩ (V.P x.1).es.length FU 0 _ X X3 (FU_gt (by omega)) (by omega) rx3 pi2 (by rw [List.drop_zero]; exact glf) (by rw [List.drop_zero]; exact gin) (by rw [List.drop_zero]; exact g2)
        obtain ⟨x4, hx4⟩ : ∃ x4, r_nextWaiting S4 (bI (fa = true)) = some x4 := by
          rcases r_next (fa := fa) f2.1.1 w pi3.1 f2.2.2.2 with ⟨-, v⟩ | ⟨j, -, v⟩
          · exact ⟨_, v⟩
          · exact ⟨_, v⟩
        obtain ⟨σ', S', X', T', lk', k1, k2, k3⟩ := j_best b0 (m - 1) F F' (n + 1) s3 S4 X3 (x.1 :: T) (lk + 1) x4 (by omega) (by omega) (by omega) (by rw [List.length_cons, hT]) g3 f2 pi3 hx4
        refine ⟨σ', S', X', T', lk', chead _ (fun y => absurd y z) (fun _ => ?_), rhead _ (fun y => absurd y z) (fun _ => ?_), k3⟩
        · unfold kX6_goInto
          have g1 : kX6_goInto_2 FU 29 a 0 (sfi (sfi σ 311 a 0) 616 29 (nI (lk + 1))) = some s3 := g1
          rw [g1, bind_s, k1]
        · unfold r_findBest_83 r_lookInto
          have f1 : r_lookInto_13 FU (nI (π x.1)) x.2.2 (nI most) (bI (fa = true)) 0 (pf S3 29 (nI (lk + 1))) = some S4 := f1
          rw [w19, bind_s, wr_ok (by rw [len17.2.2.1]; omega) (by omega), bind_s, hS3, way, bind_s, b3, m3, nI_1, f1, bind_s, hx4, bind_s, k2]
end BESTRUN
