section STR
variable {l : Launch} {G : Gt} {own mn : String} {cc : ByteArray} {nL : Nat} {rt : Option FieldType} {fr lo n0 u0 i : Nat} {rv : Option Value} {x' : Hp} {pc : Nat} {lv : List (Nat × Value)} {st rest : List Value} {x : Hp}
theorem GC.nret {v : Int32} {ty : FieldType} (hd : decode cc pc = .ok (.ireturn, 1)) (hrt1 : rt = some ty) (hn : narrow ty (.int v) = .int v) : GoC l G own mn cc nL rt fr lo n0 u0 (some (.int v)) x pc lv [.int v] x := by
  intro p e s m args below meth c0 C H locs ls hl hH hS
  obtain ⟨hx, hb, hml, ho, hts, hrt, hlk, hkn⟩ := id C
  subst hrt1
  refine W.withX fun T hT X => ?_
  obtain ⟨q1, q2, q3, q4⟩ := c_room hT X hkn.2.2.1 hH
  have g4 : x.nx ≤ NXc := hH.1.2.2.2.1
  have g5 : x.us ≤ UXc := hH.1.2.2.2.2
  refine W.widen (k := NXc - n0) (n := UXc - u0) (by omega) (by omega) ?_
  exact W.zret hx hb hrt hn (fun t ht hW => ⟨rfl, by rw [ht]; exact hH, hS.F ht⟩) hS.2.2 hd
theorem GC.getcs (hw : Cond.fieldLink own i "java/lang/String" "COMPACT_STRINGS" "Z" ∈ gw) (hd : decode cc pc = .ok (.getstatic i, 3)) (k : GoC l G own mn cc nL rt fr lo n0 u0 rv x' (pc + 3) lv (.int 1 :: st) x) : GoC l G own mn cc nL rt fr lo n0 u0 rv x' pc lv st x := by
  intro p e s m args below meth c0 C H locs ls hl hH hS
  obtain ⟨hx, hb, hml, ho, hts, hrt, hlk, hkn⟩ := id C
  exact va_gets hx hb hkn.2.1.2.2.1 hS ho (hts _ hw) (fun _ h => h) hd (k p e s m args below meth c0 C H locs ls hl hH hS)
theorem GC.getq (hw : Cond.fieldLink own i "jdk/internal/util/Preconditions" "SIOOBE_FORMATTER" "Ljava/util/function/BiFunction;" ∈ gw) (hd : decode cc pc = .ok (.getstatic i, 3)) (k : ∀ w : Value, w.category = 1 → GoC l G own mn cc nL rt fr lo n0 u0 rv x' (pc + 3) lv (w :: st) x) : GoC l G own mn cc nL rt fr lo n0 u0 rv x' pc lv st x := by
  intro p e s m args below meth c0 C H locs ls hl hH hS
  obtain ⟨hx, hb, hml, ho, hts, hrt, hlk, hkn⟩ := id C
  rcases hkn.2.1.2.2.2.1 with h | ⟨t, h⟩
  · exact va_gets hx hb h hS ho (hts _ hw) (fun _ h => h) hd (k _ rfl p e s m args below meth c0 C H locs ls hl hH hS)
  · exact va_gets hx hb h hS ho (hts _ hw) (fun _ h => h) hd (k _ rfl p e s m args below meth c0 C H locs ls hl hH hS)
theorem GC.sval {j : Nat} (hj : j < 12) (hw : Cond.fieldLink own i "java/lang/String" "value" "[B" ∈ gw) (hd : decode cc pc = .ok (.getfield i, 3)) (k : GoC l G own mn cc nL rt fr lo n0 u0 rv x' (pc + 3) lv (.ref (G.adV j) :: st) x) : GoC l G own mn cc nL rt fr lo n0 u0 rv x' pc lv (.ref (G.adK j) :: st) x := by
  intro p e s m args below meth c0 C H locs ls hl hH hS
  obtain ⟨hx, hb, hml, ho, hts, hrt, hlk, hkn⟩ := id C
  exact vk_getf hx hb (hkn.2.1.2.2.2.2.1.1 j hj).2.2.1 hS ho (hts _ hw) (fun _ h => h) hd (k p e s m args below meth c0 C H locs ls hl hH hS)
theorem GC.scod {j : Nat} (hj : j < 12) (hw : Cond.fieldLink own i "java/lang/String" "coder" "B" ∈ gw) (hd : decode cc pc = .ok (.getfield i, 3)) (k : GoC l G own mn cc nL rt fr lo n0 u0 rv x' (pc + 3) lv (.int 0 :: st) x) : GoC l G own mn cc nL rt fr lo n0 u0 rv x' pc lv (.ref (G.adK j) :: st) x := by
  intro p e s m args below meth c0 C H locs ls hl hH hS
  obtain ⟨hx, hb, hml, ho, hts, hrt, hlk, hkn⟩ := id C
  exact vk_getf hx hb (hkn.2.1.2.2.2.2.1.1 j hj).2.1 hS ho (hts _ hw) (fun _ h => h) hd (k p e s m args below meth c0 C H locs ls hl hH hS)
theorem GC.salen {j : Nat} (hj : j < 12) (hd : decode cc pc = .ok (.arraylength, 1)) (k : GoC l G own mn cc nL rt fr lo n0 u0 rv x' (pc + 1) lv (.int (nI (sLen.getD j 0)) :: st) x) : GoC l G own mn cc nL rt fr lo n0 u0 rv x' pc lv (.ref (G.adV j) :: st) x := by
  intro p e s m args below meth c0 C H locs ls hl hH hS
  obtain ⟨hx, hb, hml, ho, hts, hrt, hlk, hkn⟩ := id C
  obtain ⟨cell, h1, h2, h3, h4, h5, h6, h7⟩ := (hkn.2.1.2.2.2.2.1.1 j hj).2.2.2.kept hS.2.1
  exact W.alen (ty := .byte) hx hb h1 h2 h5 rfl rfl hd (k p e s m args below meth c0 C H locs ls hl hH hS)
theorem GC.sald {j : Nat} {v : Int32} (hj : j < 12) (hin : vp_in v (sLen.getD j 0)) (hd : decode cc pc = .ok (.baload, 1)) (k : GoC l G own mn cc nL rt fr lo n0 u0 rv x' (pc + 1) lv (.int ((sByt.getD j []).getD v.toNatClampNeg 0) :: st) x) : GoC l G own mn cc nL rt fr lo n0 u0 rv x' pc lv (.int v :: .ref (G.adV j) :: st) x := by
  intro p e s m args below meth c0 C H locs ls hl hH hS
  obtain ⟨hx, hb, hml, ho, hts, hrt, hlk, hkn⟩ := id C
  exact va_tb hx hb (hkn.2.1.2.2.2.2.1.1 j hj).2.2.2 hS hin rfl hd (k p e s m args below meth c0 C H locs ls hl hH hS)
theorem GC.i2c {a v : Int32} (hd : decode cc pc = .ok (.i2c, 1)) (hv : (a.toUInt32 % 65536).toInt32 = v) (k : GoC l G own mn cc nL rt fr lo n0 u0 rv x' (pc + 1) lv (.int v :: st) x) : GoC l G own mn cc nL rt fr lo n0 u0 rv x' pc lv (.int a :: st) x := by
  intro p e s m args below meth c0 C H locs ls hl hH hS
  obtain ⟨hx, hb, hml, ho, hts, hrt, hlk, hkn⟩ := id C
  exact lv_i2c hx hb hd hv (k p e s m args below meth c0 C H locs ls hl hH hS)
theorem GC.callS {n j : Nat} {y : MethodName} {bytes : ByteArray} {maxL fr1 lo1 : Nat} {ret : Option FieldType} {r : Int32} (hj : j < 12) (hyc : y.cls = "java/lang/String") (As : List Value) (hd : decode cc pc = .ok (.invokevirtual i, 3)) (hK : Ks own i y bytes maxL ret n) (hin : Cond.instanceMethod y ∈ gw) (hse : Cond.selects y.cls y y ∈ gw) (hM : MtC l G y bytes maxL ret fr1 lo1 (.ref (G.adK j) :: As) x (some (.int r)) x)
    (hs : st = As.reverse ++ .ref (G.adK j) :: rest) (hn : As.length = n) (hf : fr1 + 1 ≤ fr) (hlo : 8 + (maxL + 11) + lo1 ≤ lo) (hc : cat1 rest) (hc8 : rest.length ≤ 8)
    (k : GoC l G own mn cc nL rt fr lo n0 u0 rv x' (pc + 3) lv (.int r :: rest) x) : GoC l G own mn cc nL rt fr lo n0 u0 rv x' pc lv st x := by
  intro p e s m args below meth c0 C H locs ls hl hH hS
  obtain ⟨hx, hb, hml, ho, hts, hrt, hlk, hkn⟩ := id C
  refine W.withX fun T hT X => ?_
  obtain ⟨q1, q2, q3, q4⟩ := c_room hT X hkn.2.2.1 hH
  have g4 : x.nx ≤ NXc := hH.1.2.2.2.1
  have g5 : x.us ≤ UXc := hH.1.2.2.2.2
  refine GoC.run (mc := NXc - x.nx) (ms := UXc - x.us) (rv1 := some (.int r)) C hl hS (a := (Value.ref (G.adK j) :: As).toArray) (rest := rest) ?_ k
  exact va_runV (Ts := gw) (C := y.cls) (As := As) (rest := rest) ⟨hx, hb, hml, ho, hts⟩ hM ⟨cb_of hts hK.1 hK.2.1 hK.2.2.1 hK.2.2.2 ⟨hf, hlo⟩, hts _ hin, hts _ hse⟩ ⟨pcC_blind, by rw [hyc]; exact vk_recv hkn.2.1.2.2.2.2.1 hj hS, fun U hU hW => pcC_at hH hkn.1 hkn.2.1 hS hU hW⟩ rfl hn hl.1.1 hs (lv_room (by rw [cat1_sum hc]; exact hc8)) hd ⟨by show _ ≤ NXc - n0; omega, by show _ ≤ UXc - u0; omega⟩
end STR
theorem sw_cs : Cond.fieldLink RJ0 38 "java/lang/String" "COMPACT_STRINGS" "Z" ∈ gw := gw_at 931 (by decide +kernel) rfl
theorem sw_q : Cond.fieldLink RJ0 1053 "jdk/internal/util/Preconditions" "SIOOBE_FORMATTER" "Ljava/util/function/BiFunction;" ∈ gw := gw_at 947 (by decide +kernel) rfl
theorem sw_v : Cond.fieldLink RJ0 9 "java/lang/String" "value" "[B" ∈ gw := gw_at 2148 (by decide +kernel) rfl
theorem sw_c : Cond.fieldLink RJ0 15 "java/lang/String" "coder" "B" ∈ gw := gw_at 2149 (by decide +kernel) rfl
theorem ss_coder : Ks RJ0 335 yJ0_coder_7d493 cJ0_coder_7d493 1 (some .byte) 0 := ⟨gw_at 930 (by decide +kernel) rfl, gw_at 23 (by decide +kernel) rfl, gw_at 927 (by decide +kernel) rfl, by decide +kernel, by decide +kernel, by decide +kernel⟩
theorem ss_latin : Ks RJ0 492 yJ0_isLatin1_aae02 cJ0_isLatin1_aae02 1 (some .boolean) 0 := ⟨gw_at 940 (by decide +kernel) rfl, gw_at 23 (by decide +kernel) rfl, gw_at 937 (by decide +kernel) rfl, by decide +kernel, by decide +kernel, by decide +kernel⟩
theorem ss_lchar : Ks RJ0 495 yJ1_charAt_3b067 cJ1_charAt_3b067 2 (some .char) 2 := ⟨gw_at 943 (by decide +kernel) rfl, gw_at 24 (by decide +kernel) rfl, gw_at 941 (by decide +kernel) rfl, by decide +kernel, by decide +kernel, by decide +kernel⟩
theorem ss_check : Ks RJ1 9 yJ0_checkIndex_df160 cJ0_checkIndex_df160 2 none 2 := ⟨gw_at 946 (by decide +kernel) rfl, gw_at 23 (by decide +kernel) rfl, gw_at 944 (by decide +kernel) rfl, by decide +kernel, by decide +kernel, by decide +kernel⟩
theorem ss_pcheck : Ks RJ0 1059 yJ3_checkIndex_8e157 cJ3_checkIndex_8e157 3 (some .int) 3 := ⟨gw_at 625 (by decide +kernel) rfl, gw_at 22 (by decide +kernel) rfl, gw_at 949 (by decide +kernel) rfl, by decide +kernel, by decide +kernel, by decide +kernel⟩
theorem ss_len : Ks RX0 91 yJ0_length_8abf5 cJ0_length_8abf5 1 (some .int) 0 := ⟨gw_at 926 (by decide +kernel) rfl, gw_at 23 (by decide +kernel) rfl, gw_at 923 (by decide +kernel) rfl, by decide +kernel, by decide +kernel, by decide +kernel⟩
theorem ss_char : Ks RX0 95 yJ0_charAt_5068e cJ0_charAt_5068e 2 (some .char) 1 := ⟨gw_at 936 (by decide +kernel) rfl, gw_at 23 (by decide +kernel) rfl, gw_at 933 (by decide +kernel) rfl, by decide +kernel, by decide +kernel, by decide +kernel⟩
theorem si_coder : Cond.instanceMethod yJ0_coder_7d493 ∈ gw ∧ Cond.selects yJ0_coder_7d493.cls yJ0_coder_7d493 yJ0_coder_7d493 ∈ gw := ⟨gw_at 928 (by decide +kernel) rfl, gw_at 929 (by decide +kernel) rfl⟩
theorem si_latin : Cond.instanceMethod yJ0_isLatin1_aae02 ∈ gw ∧ Cond.selects yJ0_isLatin1_aae02.cls yJ0_isLatin1_aae02 yJ0_isLatin1_aae02 ∈ gw := ⟨gw_at 938 (by decide +kernel) rfl, gw_at 939 (by decide +kernel) rfl⟩
theorem si_len : Cond.instanceMethod yJ0_length_8abf5 ∈ gw ∧ Cond.selects yJ0_length_8abf5.cls yJ0_length_8abf5 yJ0_length_8abf5 ∈ gw := ⟨gw_at 924 (by decide +kernel) rfl, gw_at 925 (by decide +kernel) rfl⟩
theorem si_char : Cond.instanceMethod yJ0_charAt_5068e ∈ gw ∧ Cond.selects yJ0_charAt_5068e.cls yJ0_charAt_5068e yJ0_charAt_5068e ∈ gw := ⟨gw_at 934 (by decide +kernel) rfl, gw_at 935 (by decide +kernel) rfl⟩
theorem si_lchar : Cond.static yJ1_charAt_3b067 ∈ gw := gw_at 942 (by decide +kernel) rfl
theorem si_check : Cond.static yJ0_checkIndex_df160 ∈ gw := gw_at 945 (by decide +kernel) rfl
theorem si_pcheck : Cond.static yJ3_checkIndex_8e157 ∈ gw := gw_at 624 (by decide +kernel) rfl
theorem s_char : ∀ j, j < 12 → ∀ i, i < sLen.getD j 0 → ((((sByt.getD j []).getD i 0) &&& 255).toUInt32 % 65536).toInt32 = (sByt.getD j []).getD i 0 ∧ 0 ≤ (sByt.getD j []).getD i 0 ∧ (sByt.getD j []).getD i 0 ≤ 255 := by decide +kernel
theorem s_lens : ∀ j, j < 12 → sLen.getD j 0 < 100 ∧ 0 < sLen.getD j 0 ∧ nI (sLen.getD j 0) >>> ((0 : Int32) &&& 31) = nI (sLen.getD j 0) := by decide +kernel
theorem s_nar {v : Int32} (h : 0 ≤ v ∧ v ≤ 255) : narrow .char (.int v) = .int v := by
  obtain ⟨j, hj, rfl⟩ := nI_of2 (x := v) (M := 255) (n := 255) (by decide) (Int32.not_lt.mpr h.1) h.2
  have : ∀ j, j ≤ 255 → narrow .char (.int (nI j)) = .int (nI j) := by decide +kernel
  exact this j hj
section STM
variable {l : Launch} {G : Gt} {σ : Hp}
theorem ft : (if (1 : Int32) = 0 then (none : Option Unit) else some ()) = some () := rfl
theorem ff : (if (0 : Int32) = 0 then some () else (none : Option Unit)) = some () := rfl
set_option maxRecDepth 20000 in
theorem kt_coder {j : Nat} (hj : j < 12) : MtC l G yJ0_coder_7d493 cJ0_coder_7d493 1 (some .byte) 0 0 [.ref (G.adK j)] σ (some (.int 0)) σ := by
  refine MtC.at (by decide +kernel) ⟨rfl, trivial⟩ (Nat.le_of_ble_eq_true rfl) ?_
  refine GC.getcs sw_cs dJ0_coder_7d493_0 ?_
  refine GoC.if_eq 13 dJ0_coder_7d493_3 (by decide) ft (fun h => by cases h) (fun _ => ?_)
  refine GoC.aload_n 0 dJ0_coder_7d493_6 rfl ?_
  refine GC.scod hj sw_c dJ0_coder_7d493_7 ?_
  refine GoC.goto 14 dJ0_coder_7d493_10 (by decide) ?_
  exact GC.nret dJ0_coder_7d493_14 rfl rfl
set_option maxRecDepth 20000 in
theorem kt_latin {j : Nat} (hj : j < 12) : MtC l G yJ0_isLatin1_aae02 cJ0_isLatin1_aae02 1 (some .boolean) 0 0 [.ref (G.adK j)] σ (some (.int 1)) σ := by
  refine MtC.at (by decide +kernel) ⟨rfl, trivial⟩ (Nat.le_of_ble_eq_true rfl) ?_
  refine GC.getcs sw_cs dJ0_isLatin1_aae02_0 ?_
  refine GoC.if_eq 17 dJ0_isLatin1_aae02_3 (by decide) ft (fun h => by cases h) (fun _ => ?_)
  refine GoC.aload_n 0 dJ0_isLatin1_aae02_6 rfl ?_
  refine GC.scod hj sw_c dJ0_isLatin1_aae02_7 ?_
  refine GoC.if_ne 17 dJ0_isLatin1_aae02_10 (by decide) ff (fun h => by cases h) (fun _ => ?_)
  refine GoC.iconst 1 dJ0_isLatin1_aae02_13 (by decide) ?_
  refine GoC.goto 18 dJ0_isLatin1_aae02_14 (by decide) ?_
  exact GC.nret dJ0_isLatin1_aae02_18 rfl rfl
set_option maxRecDepth 20000 in
theorem kt_len {j : Nat} (hj : j < 12) : MtC l G yJ0_length_8abf5 cJ0_length_8abf5 1 (some .int) 1 20 [.ref (G.adK j)] σ (some (.int (nI (sLen.getD j 0)))) σ := by
  refine MtC.at (by decide +kernel) ⟨rfl, trivial⟩ (Nat.le_of_ble_eq_true rfl) ?_
  refine GoC.aload_n 0 dJ0_length_8abf5_0 rfl ?_
  refine GC.sval hj sw_v dJ0_length_8abf5_1 ?_
  refine GC.salen hj dJ0_length_8abf5_4 ?_
  refine GoC.aload_n 0 dJ0_length_8abf5_5 rfl ?_
  refine GC.callS (rest := [.int (nI (sLen.getD j 0))]) hj rfl [] dJ0_length_8abf5_6 ss_coder si_coder.1 si_coder.2 (kt_coder hj) rfl rfl (Nat.le_of_ble_eq_true rfl) (Nat.le_of_ble_eq_true rfl) ⟨rfl, trivial⟩ (Nat.le_of_ble_eq_true rfl) ?_
  refine GoC.ishr dJ0_length_8abf5_9 ?_
  rw [(s_lens j hj).2.2]
  exact GoC.iret dJ0_length_8abf5_10 rfl
set_option maxRecDepth 20000 in
theorem kt_check {v n : Int32} {i0 : Int32} (h : kJ3_checkIndex_8e157 σ v n .null = some i0) (h2 : ∀ w, kJ3_checkIndex_8e157 σ v n w = some i0) : MtC l G yJ0_checkIndex_df160 cJ0_checkIndex_df160 2 none 1 22 [.int v, .int n] σ none σ := by
  refine MtC.at (by decide +kernel) ⟨rfl, rfl, trivial⟩ (Nat.le_of_ble_eq_true rfl) ?_
  refine GoC.iload_n 0 dJ0_checkIndex_df160_0 rfl ?_
  refine GoC.iload_n 1 dJ0_checkIndex_df160_1 rfl ?_
  refine GC.getq sw_q dJ0_checkIndex_df160_2 (fun w hw => ?_)
  refine GC.callsI (rest := []) [.int v, .int n, w] dJ0_checkIndex_df160_5 ss_pcheck si_pcheck (ktJ3_checkIndex_8e157 _ _ _ hw _ (h2 w)) rfl rfl (Nat.le_of_ble_eq_true rfl) (Nat.le_of_ble_eq_true rfl) trivial (Nat.le_of_ble_eq_true rfl) ?_
  refine GoC.pop dJ0_checkIndex_df160_8 rfl ?_
  exact GoC.vret dJ0_checkIndex_df160_9 rfl
theorem pcheck_in {v : Int32} {n : Nat} (h : vp_in v n) (hn : n < 2 ^ 31) (w : Value) : kJ3_checkIndex_8e157 σ v (nI n) w = some v := by
  obtain ⟨j, hj, rfl⟩ := vp_in_of h hn
  unfold kJ3_checkIndex_8e157
  rw [if_neg (nI_pos (by omega)), if_pos (nI_lt hj hn)]
set_option maxRecDepth 20000 in
theorem kt_lchar {j : Nat} {v : Int32} (hj : j < 12) (hin : vp_in v (sLen.getD j 0)) : MtC l G yJ1_charAt_3b067 cJ1_charAt_3b067 2 (some .char) 2 43 [.ref (G.adV j), .int v] σ (some (.int ((sByt.getD j []).getD v.toNatClampNeg 0))) σ := by
  have hlen := s_lens j hj
  have hlt : v.toNatClampNeg < sLen.getD j 0 := Nat.not_le.mp fun q => hin (Or.inr q)
  have hch := s_char j hj _ hlt
  refine MtC.at (by decide +kernel) ⟨rfl, rfl, trivial⟩ (Nat.le_of_ble_eq_true rfl) ?_
  refine GoC.iload_n 1 dJ1_charAt_3b067_0 rfl ?_
  refine GoC.aload_n 0 dJ1_charAt_3b067_1 rfl ?_
  refine GC.salen hj dJ1_charAt_3b067_2 ?_
  refine GC.callsV (rest := []) [.int v, .int (nI (sLen.getD j 0))] dJ1_charAt_3b067_3 ss_check si_check (kt_check (pcheck_in hin (by omega) _) (pcheck_in hin (by omega))) rfl rfl (Nat.le_of_ble_eq_true rfl) (Nat.le_of_ble_eq_true rfl) trivial (Nat.le_of_ble_eq_true rfl) ?_
  refine GoC.aload_n 0 dJ1_charAt_3b067_6 rfl ?_
  refine GoC.iload_n 1 dJ1_charAt_3b067_7 rfl ?_
  refine GC.sald hj hin dJ1_charAt_3b067_8 ?_
  refine GoC.sipush 255 dJ1_charAt_3b067_9 (by decide) ?_
  refine GoC.iand dJ1_charAt_3b067_12 ?_
  refine GC.i2c dJ1_charAt_3b067_13 hch.1 ?_
  refine GC.nret dJ1_charAt_3b067_14 rfl ?_
  exact s_nar hch.2
set_option maxRecDepth 20000 in
theorem kt_char {j : Nat} {v : Int32} (hj : j < 12) (hin : vp_in v (sLen.getD j 0)) : MtC l G yJ0_charAt_5068e cJ0_charAt_5068e 2 (some .char) 3 64 [.ref (G.adK j), .int v] σ (some (.int ((sByt.getD j []).getD v.toNatClampNeg 0))) σ := by
  have hlt : v.toNatClampNeg < sLen.getD j 0 := Nat.not_le.mp fun q => hin (Or.inr q)
  have hch := s_char j hj _ hlt
  refine MtC.at (by decide +kernel) ⟨rfl, rfl, trivial⟩ (Nat.le_of_ble_eq_true rfl) ?_
  refine GoC.aload_n 0 dJ0_charAt_5068e_0 rfl ?_
  refine GC.callS (rest := []) hj rfl [] dJ0_charAt_5068e_1 ss_latin si_latin.1 si_latin.2 (kt_latin hj) rfl rfl (Nat.le_of_ble_eq_true rfl) (Nat.le_of_ble_eq_true rfl) trivial (Nat.le_of_ble_eq_true rfl) ?_
  refine GoC.if_eq 16 dJ0_charAt_5068e_4 (by decide) ft (fun h => by cases h) (fun _ => ?_)
  refine GoC.aload_n 0 dJ0_charAt_5068e_7 rfl ?_
  refine GC.sval hj sw_v dJ0_charAt_5068e_8 ?_
  refine GoC.iload_n 1 dJ0_charAt_5068e_11 rfl ?_
  refine GC.callsI (rest := []) [.ref (G.adV j), .int v] dJ0_charAt_5068e_12 ss_lchar si_lchar (kt_lchar hj hin) rfl rfl (Nat.le_of_ble_eq_true rfl) (Nat.le_of_ble_eq_true rfl) trivial (Nat.le_of_ble_eq_true rfl) ?_
  exact GC.nret dJ0_charAt_5068e_15 rfl (s_nar hch.2)
/-- a text's length and signs, as the class's mirrors ask them -/
def sln (j : Nat) : Option Int32 := if j < 12 then some (nI (sLen.getD j 0)) else none
def sat (j : Nat) (v : Int32) : Option Int32 := if j < 12 ∧ ¬ (v < 0 ∨ sLen.getD j 0 ≤ v.toNatClampNeg) then some ((sByt.getD j []).getD v.toNatClampNeg 0) else none
theorem ktJ0_length_8abf5 (j : Nat) : ∀ Z, sln j = some Z → j < 12 ∧ MtC l G yJ0_length_8abf5 cJ0_length_8abf5 1 (some .int) 1 20 [.ref (G.adK j)] σ (some (.int Z)) σ := by
  intro Z h
  unfold sln at h
  split at h
  · rename_i q
    cases h
    exact ⟨q, kt_len q⟩
  · cases h
theorem ktJ0_charAt_5068e (j : Nat) (v : Int32) : ∀ Z, sat j v = some Z → j < 12 ∧ MtC l G yJ0_charAt_5068e cJ0_charAt_5068e 2 (some .char) 3 64 [.ref (G.adK j), .int v] σ (some (.int Z)) σ := by
  intro Z h
  unfold sat at h
  split at h
  · rename_i q
    cases h
    exact ⟨q.1, kt_char q.1 q.2⟩
  · cases h
end STM
