theorem iw_0 : Cond.instantiable RX0 10 ∈ gw := gw_at 503 (by decide +kernel) rfl
theorem iw_1 : Cond.instantiable RX1 6 ∈ gw := gw_at 291 (by decide +kernel) rfl
theorem iw_2 : Cond.instantiable RX2 4 ∈ gw := gw_at 272 (by decide +kernel) rfl
theorem iw_3 : Cond.instantiable RX3 14 ∈ gw := gw_at 70 (by decide +kernel) rfl
theorem iw_4 : Cond.instantiable RX4 4 ∈ gw := gw_at 480 (by decide +kernel) rfl
theorem iw_5 : Cond.instantiable RX5 2 ∈ gw := gw_at 546 (by decide +kernel) rfl
theorem iw_6 : Cond.instantiable RX6 18 ∈ gw := gw_at 375 (by decide +kernel) rfl
theorem iw_7 : Cond.instantiable RX7 13 ∈ gw := gw_at 37 (by decide +kernel) rfl
theorem iw_8 : Cond.instantiable RX8 9 ∈ gw := gw_at 442 (by decide +kernel) rfl
theorem iw_9 : Cond.instantiable RX9 10 ∈ gw := gw_at 319 (by decide +kernel) rfl
theorem iw_10 : Cond.instantiable RX10 3 ∈ gw := gw_at 357 (by decide +kernel) rfl
theorem iw_11 : Cond.instantiable RX11 10 ∈ gw := gw_at 29 (by decide +kernel) rfl
theorem iw_12 : Cond.instantiable RJx4a65c 3 ∈ gw := gw_at 43 (by decide +kernel) rfl
theorem iw_m : Cond.instantiable RX12 53 ∈ gw := gw_at 1370 (by decide +kernel) rfl
abbrev mkG (base e0 : Nat) (inM : Nat → Prop) (D : va_G) (cA : Nat → ClassId) (mi : Nat) (adK adV : Nat → Nat) : Gt := (base, e0, inM, D, cA, 0, 0, mi, adK, adV)
def fx : Cond := Jvm.Cond.and given_1 narrow_1
abbrev tmS (i : Nat) : Term := Term.string "LikePages$Commands" (sIdx.getD i 0)
theorem fx_ex : ∀ i, i < 12 → Cond.exactly (tmS i) "java/lang/String" ∈ flatC fx := by decide +kernel
theorem fx_co : ∀ i, i < 12 → Cond.eq (.field (tmS i) "java/lang/String" "coder" "B") (.int 0) ∈ flatC fx := by decide +kernel
theorem fx_ar : ∀ i, i < 12 → Cond.arrayOf (.field (tmS i) "java/lang/String" "value" "[B") .byte ∈ flatC fx := by decide +kernel
theorem fx_le : ∀ i, i < 12 → Cond.eq (.length (.field (tmS i) "java/lang/String" "value" "[B")) (.int (Int32.ofNat (sLen.getD i 0))) ∈ flatC fx := by decide +kernel
theorem fx_el : ∀ i, i < 12 → ∀ j, j < sLen.getD i 0 → Cond.eq (.elem (.field (tmS i) "java/lang/String" "value" "[B") (.int (Int32.ofNat j))) (.int ((sByt.getD i []).getD j 0)) ∈ flatC fx := by decide +kernel
theorem fx_ne : ∀ i, i < 12 → ∀ j, j < 12 → i ≠ j → Cond.not (Cond.eq (tmS i) (tmS j)) ∈ flatC fx ∨ Cond.not (Cond.eq (tmS j) (tmS i)) ∈ flatC fx := by decide +kernel
abbrev tmE : Term := Term.static "java/util/ArrayList" "DEFAULTCAPACITY_EMPTY_ELEMENTDATA" "[Ljava/lang/Object;"
theorem fx_e1 : Cond.arrayOf tmE (.object "java/lang/Object") ∈ flatC fx := by decide +kernel
theorem fx_e2 : Cond.eq (.length tmE) (.int 0) ∈ flatC fx := by decide +kernel
theorem fx_cs : Cond.eq (.static "java/lang/String" "COMPACT_STRINGS" "Z") (.int 1) ∈ flatC fx := by decide +kernel
theorem fx_q : Cond.isRef (.static "jdk/internal/util/Preconditions" "SIOOBE_FORMATTER" "Ljava/util/function/BiFunction;") ∈ flatC fx := by decide +kernel
theorem fx_mi : Cond.isRef (.mirror "[Ljava/lang/Object;") ∈ flatC fx := by decide +kernel
theorem lw_sref : ∀ i, i < 12 → tables_1[[918, 969, 970, 971, 972, 973, 974, 975, 992, 993, 994, 995].getD i 0]? = some (Cond.stringRef "LikePages$Commands" (sIdx.getD i 0) (sTxt.getD i "")) := by decide +kernel
set_option maxHeartbeats 4000000 in
/-- what the start says, in the words of both worlds -/
theorem law_known {p : Program} {s : State} {m : MethodId} {meth : Method} {c : Code} {b L : Nat} {xs : Nat → Int32} (C0 : lw_At p s m meth c b L xs) :
    ∃ (D : va_G) (cA : Nat → ClassId) (e0 mi : Nat) (adK adV : Nat → Nat) (cM : ClassId) (iM : Nat → Nat), e0 < s.heap.size ∧ u_Kn s RX12 TX12 53 cM iM ∧ ∀ inM : Nat → Prop, KC (mkG s.heap.size e0 inM D cA mi adK adV) s ∧ OC (mkG s.heap.size e0 inM D cA mi adK adV) s := by
  obtain ⟨hx, hb, hr, hml, hown, hts, hX, hbl, hlocks, hgv⟩ := id C0
  have hg : ∀ w ∈ gw, w.before #[Value.ref b] s = true := fun w hw => hts w (List.mem_filter.mp hw).1
  have hf := flat_of_before fx hgv
  let A : Nat → Prop := fun q => s.heap.size ≤ q
  have hA : ∀ a : Nat, a < s.heap.size → ¬ A a := fun a h q => absurd h (Nat.not_lt.mpr q)
  obtain ⟨c0, i0, k0⟩ := u_known (C := RX0) (T := TX0) (N := 10) hg inX0 (hg _ iw_0)
  obtain ⟨c1, i1, k1⟩ := u_known (C := RX1) (T := TX1) (N := 6) hg inX1 (hg _ iw_1)
  obtain ⟨c2, i2, k2⟩ := u_known (C := RX2) (T := TX2) (N := 4) hg inX2 (hg _ iw_2)
  obtain ⟨c3, i3, k3⟩ := u_known (C := RX3) (T := TX3) (N := 14) hg inX3 (hg _ iw_3)
  obtain ⟨c4, i4, k4⟩ := u_known (C := RX4) (T := TX4) (N := 4) hg inX4 (hg _ iw_4)
  obtain ⟨c5, i5, k5⟩ := u_known (C := RX5) (T := TX5) (N := 2) hg inX5 (hg _ iw_5)
  obtain ⟨c6, i6, k6⟩ := u_known (C := RX6) (T := TX6) (N := 18) hg inX6 (hg _ iw_6)
  obtain ⟨c7, i7, k7⟩ := u_known (C := RX7) (T := TX7) (N := 13) hg inX7 (hg _ iw_7)
  obtain ⟨c8, i8, k8⟩ := u_known (C := RX8) (T := TX8) (N := 9) hg inX8 (hg _ iw_8)
  obtain ⟨c9, i9, k9⟩ := u_known (C := RX9) (T := TX9) (N := 10) hg inX9 (hg _ iw_9)
  obtain ⟨c10, i10, k10⟩ := u_known (C := RX10) (T := TX10) (N := 3) hg inX10 (hg _ iw_10)
  obtain ⟨c11, i11, k11⟩ := u_known (C := RX11) (T := TX11) (N := 10) hg inX11 (hg _ iw_11)
  obtain ⟨c12, i12, k12⟩ := u_known (C := RJx4a65c) (T := TJx4a65c) (N := 3) hg inJx4a65c (hg _ iw_12)
  obtain ⟨cM, iM, kM⟩ := u_known (C := RX12) (T := TX12) (N := 53) hg m_in (hg _ iw_m)
  obtain ⟨dC, dI, hKc⟩ : ∃ (dC : Nat → ClassId) (dI : Nat → Nat → Nat), ∀ (k : Nat) (q : vw_C), clsC[k]? = some q → u_Kn s q.1 q.2.1 q.2.2 (dC k) (dI k) := by
    refine ⟨fun k => match k with
      | 0 => c0
      | 1 => c1
      | 2 => c2
      | 3 => c3
      | 4 => c4
      | 5 => c5
      | 6 => c6
      | 7 => c7
      | 8 => c8
      | 9 => c9
      | 10 => c10
      | 11 => c11
      | 12 => c12
      | _ => c0, fun k => match k with
      | 0 => i0
      | 1 => i1
      | 2 => i2
      | 3 => i3
      | 4 => i4
      | 5 => i5
      | 6 => i6
      | 7 => i7
      | 8 => i8
      | 9 => i9
      | 10 => i10
      | 11 => i11
      | 12 => i12
      | _ => i0, ?_⟩
    intro k q hq
    match k, hq with
    | 0, hq => cases hq; exact k0
    | 1, hq => cases hq; exact k1
    | 2, hq => cases hq; exact k2
    | 3, hq => cases hq; exact k3
    | 4, hq => cases hq; exact k4
    | 5, hq => cases hq; exact k5
    | 6, hq => cases hq; exact k6
    | 7, hq => cases hq; exact k7
    | 8, hq => cases hq; exact k8
    | 9, hq => cases hq; exact k9
    | 10, hq => cases hq; exact k10
    | 11, hq => cases hq; exact k11
    | 12, hq => cases hq; exact k12
    | k + 13, hq => simp [clsC] at hq
  obtain ⟨a1, ka1, co1, f1, f2, f3⟩ := Cond.arrayClass_spec (hg _ ac_int)
  obtain ⟨a2, ka2, co2, f4, f5, f6⟩ := Cond.arrayClass_spec (hg _ ac_bool)
  obtain ⟨comp, a3, ka3, f7, -, f8, f9, f10⟩ := Cond.arrayOver_spec (hts (.arrayOver (.object "java/lang/Object")) (List.mem_append_right _ (List.mem_of_getElem? (i := 198) (by decide +kernel))))
  have t1 : ArrOfT s a1 .int := fun n z => ⟨fun k q => (by cases q), ka1, f2, co1, f3⟩
  have t2 : ArrOfT s a2 .boolean := fun n z => ⟨fun k q => (by cases q), ka2, f5, co2, f6⟩
  have t3 : ArrOfT s a3 (.object "java/lang/Object") := fun n z => ⟨fun k q => (by cases q), ka3, f8, comp, f9⟩
  have r3 : va_RA s a3 (.object "java/lang/Object") := ⟨ka3, comp, f8, f9, f7, f10⟩
  obtain ⟨e0, he0, hT0⟩ := va_Tof (N := 0) (f := fun _ => .null) (A := A) (by decide) (hf _ fx_e1) (va_eqt (hf _ fx_e2)) (fun j hj => absurd hj (Nat.not_lt_zero j)) hA
  have hZ0 := va_Zref (A := A) (hts (.laysStatic "java/util/ArrayList" "DEFAULTCAPACITY_EMPTY_ELEMENTDATA" "[Ljava/lang/Object;") (List.mem_append_right _ (List.mem_of_getElem? (i := 55) (by decide +kernel)))) (hts (.initialized "java/util/ArrayList") (List.mem_append_right _ (List.mem_of_getElem? (i := 5) (by decide +kernel)))) he0 hA
  have hZ1 := va_Zof (A := A) (hts (.laysStatic "java/lang/String" "COMPACT_STRINGS" "Z") (List.mem_append_right _ (List.mem_of_getElem? (i := 932) (by decide +kernel)))) (hts (.initialized "java/lang/String") (List.mem_append_right _ (List.mem_of_getElem? (i := 23) (by decide +kernel)))) (va_eqi (hf _ fx_cs)) hA
  have hZ2 := va_Zqof (A := A) (hts (.laysStatic "jdk/internal/util/Preconditions" "SIOOBE_FORMATTER" "Ljava/util/function/BiFunction;") (List.mem_append_right _ (List.mem_of_getElem? (i := 948) (by decide +kernel)))) (hts (.initialized "jdk/internal/util/Preconditions") (List.mem_append_right _ (List.mem_of_getElem? (i := 22) (by decide +kernel)))) (hf _ fx_q) hA
  obtain ⟨mi, hmi⟩ := va_Mi.of (hf _ fx_mi)
  obtain ⟨adK, adV, hS, hK⟩ := vk_Sof (N := 12) (tm := tmS) (len := sLen) (byt := sByt) (A := A) (fun i hi => by have := (s_lens i hi).1; omega) (fun i hi => hf _ (fx_ex i hi)) (fun i hi => hf _ (fx_co i hi)) (fun i hi => hf _ (fx_ar i hi)) (fun i hi => hf _ (fx_le i hi)) (fun i hi j hj => hf _ (fx_el i hi j hj)) (fun i j hi hj hij => (fx_ne i hi j hj hij).imp (fun h => hf _ h) (fun h => hf _ h)) hA
  have hNW : NW s := ⟨va_Nw.of rfl (hts _ (List.mem_append_right _ (List.mem_of_getElem? (i := 2129) (by decide +kernel)))), va_Nw.of rfl (hts _ (List.mem_append_right _ (List.mem_of_getElem? (i := 2127) (by decide +kernel)))), va_AO.of (hts _ (List.mem_append_right _ (List.mem_of_getElem? (i := 198) (by decide +kernel)))), va_Dc.of (hts _ (List.mem_append_right _ (List.mem_of_getElem? (i := 2143) (by decide +kernel)))), va_Nw.of rfl (hts _ (List.mem_append_right _ (List.mem_of_getElem? (i := 71) (by decide +kernel)))), va_Nw.of rfl (hts _ (List.mem_append_right _ (List.mem_of_getElem? (i := 273) (by decide +kernel)))), va_Nw.of rfl (hts _ (List.mem_append_right _ (List.mem_of_getElem? (i := 481) (by decide +kernel)))), va_Nw.of rfl (hts _ (List.mem_append_right _ (List.mem_of_getElem? (i := 504) (by decide +kernel)))), va_Nw.of rfl (hts _ (List.mem_append_right _ (List.mem_of_getElem? (i := 547) (by decide +kernel))))⟩
  refine ⟨(dC, dI), fun k => if k = 1 then a1 else if k = 2 then a2 else a3, e0, mi, adK, adV, cM, iM, ?_, kM, fun inM => ⟨⟨hKc, ⟨t1, f1⟩, ⟨t2, f4⟩, t3, r3⟩, ?_⟩⟩
  · obtain ⟨cell, g1, -⟩ := hT0
    exact (Array.getElem?_eq_some_iff.mp g1).1
  · have hAB : ∀ q, AC (mkG s.heap.size e0 inM (dC, dI) (fun k => if k = 1 then a1 else if k = 2 then a2 else a3) mi adK adV) q → A q := fun q h => h.1
    exact ⟨hZ0.narrow hAB, ⟨hmi, hT0.narrow hAB⟩, hZ1.narrow hAB, hZ2.narrow hAB, hS.narrow hAB, hNW, fun i hi => vk_R.of (hts _ (List.mem_append_right _ (List.mem_of_getElem? (lw_sref i hi)))) (hK i hi)⟩

