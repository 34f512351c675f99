def nz (a : Nat) : Option Unit := if a = 0 then none else some ()
theorem nz_ne {a : Nat} {u : Unit} (h : nz a = some u) : a ≠ 0 := by
  unfold nz at h
  split at h
  · cases h
  · assumption
def ckc {Y : Type} (x : Hp) (a t : Nat) (o : Option Y) : Option Y := if a = 0 ∨ x.kd a = t then o else none
def ckr {Y : Type} (x : Hp) (a : Nat) (o : Option Y) : Option Y := if x.kd a = 3 then o else none
theorem ckr_some {Y : Type} {x : Hp} {a : Nat} {o : Option Y} {z : Y} (h : ckr x a o = some z) : x.kd a = 3 ∧ o = some z := by
  unfold ckr at h
  split at h
  · rename_i q; exact ⟨q, h⟩
  · cases h
theorem lgsl (vs : List Value) (h : cat1 vs) {n : Nat} (hn : vs.length ≤ n) : (lg_sl vs).length ≤ n := by
  have : (lg_sl vs).length = vs.length := by
    clear hn
    induction vs with
    | nil => rfl
    | cons v t ih =>
      show ((if v.category = 2 then [Slot.val v, Slot.second] else [Slot.val v]) ++ lg_sl t).length = _
      rw [if_neg (by rw [h.1]; decide), List.length_append, ih h.2]
      simp; omega
  omega
theorem ac_int : Cond.arrayClass .int ∈ gw := gw_at 68 (by decide +kernel) rfl
theorem ac_bool : Cond.arrayClass .boolean ∈ gw := gw_at 355 (by decide +kernel) rfl
theorem ac_nat : Cond.native arraycopyName ∈ gw := gw_at 205 (by decide +kernel) rfl
theorem ac_stat : Cond.static arraycopyName ∈ gw := gw_at 204 (by decide +kernel) rfl
theorem ac_ini : Cond.initialized "java/lang/System" ∈ gw := gw_at 10 (by decide +kernel) rfl
theorem oi_inst : Cond.instanceMethod objectInit ∈ gw := gw_at 34 (by decide +kernel) rfl
theorem oi_code : Cond.code objectInit ⟨#[0xb1]⟩ 1 none ∈ gw := gw_at 35 (by decide +kernel) rfl
theorem fw_X0_9 : Cond.fieldLink RX0 9 "LikePages$Commands" (TX0 0).2.1 (TX0 0).2.2.1 ∈ gw := gw_at 508 (by decide +kernel) rfl
theorem fw_X0_15 : Cond.fieldLink RX0 15 "LikePages$Commands" (TX0 2).2.1 (TX0 2).2.2.1 ∈ gw := gw_at 511 (by decide +kernel) rfl
theorem fw_X0_18 : Cond.fieldLink RX0 18 "LikePages$Commands" (TX0 3).2.1 (TX0 3).2.2.1 ∈ gw := gw_at 513 (by decide +kernel) rfl
theorem fw_X0_21 : Cond.fieldLink RX0 21 "LikePages$Commands" (TX0 4).2.1 (TX0 4).2.2.1 ∈ gw := gw_at 515 (by decide +kernel) rfl
theorem fw_X0_24 : Cond.fieldLink RX0 24 "LikePages$Commands" (TX0 6).2.1 (TX0 6).2.2.1 ∈ gw := gw_at 519 (by decide +kernel) rfl
theorem fw_X0_28 : Cond.fieldLink RX0 28 "LikePages$Commands" (TX0 1).2.1 (TX0 1).2.2.1 ∈ gw := gw_at 509 (by decide +kernel) rfl
theorem fw_X0_34 : Cond.fieldLink RX0 34 "LikePages$Commands" (TX0 9).2.1 (TX0 9).2.2.1 ∈ gw := gw_at 523 (by decide +kernel) rfl
theorem fw_X0_44 : Cond.fieldLink RX0 44 "LikePages$Commands" (TX0 7).2.1 (TX0 7).2.2.1 ∈ gw := gw_at 521 (by decide +kernel) rfl
theorem fw_X0_47 : Cond.fieldLink RX0 47 "LikePages$Commands" (TX0 8).2.1 (TX0 8).2.2.1 ∈ gw := gw_at 522 (by decide +kernel) rfl
theorem fw_X1_9 : Cond.fieldLink RX1 9 "LikePages$Fars" (TX1 1).2.1 (TX1 1).2.2.1 ∈ gw := gw_at 300 (by decide +kernel) rfl
theorem fw_X1_15 : Cond.fieldLink RX1 15 "LikePages$Fars" (TX1 2).2.1 (TX1 2).2.2.1 ∈ gw := gw_at 301 (by decide +kernel) rfl
theorem fw_X1_18 : Cond.fieldLink RX1 18 "LikePages$Fars" (TX1 3).2.1 (TX1 3).2.2.1 ∈ gw := gw_at 302 (by decide +kernel) rfl
theorem fw_X1_22 : Cond.fieldLink RX1 22 "LikePages$Fars" (TX1 4).2.1 (TX1 4).2.2.1 ∈ gw := gw_at 303 (by decide +kernel) rfl
theorem fw_X1_25 : Cond.fieldLink RX1 25 "LikePages$Fars" (TX1 0).2.1 (TX1 0).2.2.1 ∈ gw := gw_at 299 (by decide +kernel) rfl
theorem fw_X1_35 : Cond.fieldLink RX1 35 "LikePages$Page" (TX3 1).2.1 (TX3 1).2.2.1 ∈ gw := gw_at 81 (by decide +kernel) rfl
theorem fw_X1_40 : Cond.fieldLink RX1 40 "LikePages$Page" (TX3 3).2.1 (TX3 3).2.2.1 ∈ gw := gw_at 91 (by decide +kernel) rfl
theorem fw_X2_21 : Cond.fieldLink RX2 21 "LikePages$Measures" (TX2 3).2.1 (TX2 3).2.2.1 ∈ gw := gw_at 280 (by decide +kernel) rfl
theorem fw_X2_18 : Cond.fieldLink RX2 18 "LikePages$Measures" (TX2 2).2.1 (TX2 2).2.2.1 ∈ gw := gw_at 279 (by decide +kernel) rfl
theorem fw_X2_9 : Cond.fieldLink RX2 9 "LikePages$Measures" (TX2 0).2.1 (TX2 0).2.2.1 ∈ gw := gw_at 277 (by decide +kernel) rfl
theorem fw_X2_15 : Cond.fieldLink RX2 15 "LikePages$Measures" (TX2 1).2.1 (TX2 1).2.2.1 ∈ gw := gw_at 278 (by decide +kernel) rfl
theorem fw_X1_47 : Cond.fieldLink RX1 47 "LikePages$Fars" (TX1 5).2.1 (TX1 5).2.2.1 ∈ gw := gw_at 304 (by decide +kernel) rfl
theorem fw_X1_68 : Cond.fieldLink RX1 68 "LikePages$State" (TX7 2).2.1 (TX7 2).2.2.1 ∈ gw := gw_at 217 (by decide +kernel) rfl
theorem fw_X1_71 : Cond.fieldLink RX1 71 "LikePages$State" (TX7 3).2.1 (TX7 3).2.2.1 ∈ gw := gw_at 219 (by decide +kernel) rfl
theorem fw_X1_74 : Cond.fieldLink RX1 74 "LikePages$State" (TX7 4).2.1 (TX7 4).2.2.1 ∈ gw := gw_at 221 (by decide +kernel) rfl
theorem fw_X1_65 : Cond.fieldLink RX1 65 "LikePages$State" (TX7 5).2.1 (TX7 5).2.2.1 ∈ gw := gw_at 222 (by decide +kernel) rfl
theorem fw_X1_55 : Cond.fieldLink RX1 55 "LikePages$State" (TX7 0).2.1 (TX7 0).2.2.1 ∈ gw := gw_at 210 (by decide +kernel) rfl
theorem fw_X1_50 : Cond.fieldLink RX1 50 "LikePages$State" (TX7 6).2.1 (TX7 6).2.2.1 ∈ gw := gw_at 227 (by decide +kernel) rfl
theorem fw_X3_9 : Cond.fieldLink RX3 9 "LikePages$Page" (TX3 0).2.1 (TX3 0).2.2.1 ∈ gw := gw_at 75 (by decide +kernel) rfl
theorem fw_X3_15 : Cond.fieldLink RX3 15 "LikePages$Page" (TX3 1).2.1 (TX3 1).2.2.1 ∈ gw := gw_at 80 (by decide +kernel) rfl
theorem fw_X3_19 : Cond.fieldLink RX3 19 "LikePages$Page" (TX3 3).2.1 (TX3 3).2.2.1 ∈ gw := gw_at 90 (by decide +kernel) rfl
theorem fw_X3_23 : Cond.fieldLink RX3 23 "LikePages$Page" (TX3 4).2.1 (TX3 4).2.2.1 ∈ gw := gw_at 96 (by decide +kernel) rfl
theorem fw_X3_26 : Cond.fieldLink RX3 26 "LikePages$Page" (TX3 5).2.1 (TX3 5).2.2.1 ∈ gw := gw_at 101 (by decide +kernel) rfl
theorem fw_X3_29 : Cond.fieldLink RX3 29 "LikePages$Page" (TX3 2).2.1 (TX3 2).2.2.1 ∈ gw := gw_at 85 (by decide +kernel) rfl
theorem fw_Jxc12de_7 : Cond.fieldLink RJxc12de 7 "java/util/AbstractList" (TJx4a65c 0).2.1 (TJx4a65c 0).2.2.1 ∈ gw := gw_at 58 (by decide +kernel) rfl
theorem fw_Jx4a65c_9 : Cond.fieldLink RJx4a65c 9 "java/util/ArrayList" (TJx4a65c 1).2.1 (TJx4a65c 1).2.2.1 ∈ gw := gw_at 56 (by decide +kernel) rfl
theorem fw_Jx4a65c_48 : Cond.fieldLink RJx4a65c 48 "java/util/ArrayList" (TJx4a65c 2).2.1 (TJx4a65c 2).2.2.1 ∈ gw := gw_at 57 (by decide +kernel) rfl
theorem fw_Jx4a65c_63 : Cond.fieldLink RJx4a65c 63 "java/util/ArrayList" (TJx4a65c 0).2.1 (TJx4a65c 0).2.2.1 ∈ gw := gw_at 59 (by decide +kernel) rfl
theorem fs_Jx4a65c_63 : Cond.sameField "java/util/ArrayList" (TJx4a65c 0).1 (TJx4a65c 0).2.1 (TJx4a65c 0).2.2.1 ∈ gw := gw_at 60 (by decide +kernel) rfl
theorem fw_X7_9 : Cond.fieldLink RX7 9 "LikePages$State" (TX7 0).2.1 (TX7 0).2.2.1 ∈ gw := gw_at 208 (by decide +kernel) rfl
theorem fw_X7_15 : Cond.fieldLink RX7 15 "LikePages$State" (TX7 2).2.1 (TX7 2).2.2.1 ∈ gw := gw_at 216 (by decide +kernel) rfl
theorem fw_X7_18 : Cond.fieldLink RX7 18 "LikePages$State" (TX7 3).2.1 (TX7 3).2.2.1 ∈ gw := gw_at 218 (by decide +kernel) rfl
theorem fw_X7_21 : Cond.fieldLink RX7 21 "LikePages$State" (TX7 4).2.1 (TX7 4).2.2.1 ∈ gw := gw_at 220 (by decide +kernel) rfl
theorem fw_X7_24 : Cond.fieldLink RX7 24 "LikePages$State" (TX7 6).2.1 (TX7 6).2.2.1 ∈ gw := gw_at 225 (by decide +kernel) rfl
theorem fw_X7_28 : Cond.fieldLink RX7 28 "LikePages$State" (TX7 7).2.1 (TX7 7).2.2.1 ∈ gw := gw_at 229 (by decide +kernel) rfl
theorem fw_X7_34 : Cond.fieldLink RX7 34 "LikePages$State" (TX7 8).2.1 (TX7 8).2.2.1 ∈ gw := gw_at 232 (by decide +kernel) rfl
theorem fw_X7_38 : Cond.fieldLink RX7 38 "LikePages$State" (TX7 9).2.1 (TX7 9).2.2.1 ∈ gw := gw_at 233 (by decide +kernel) rfl
theorem fw_X4_12 : Cond.fieldLink RX4 12 "LikePages$Past" (TX4 0).2.1 (TX4 0).2.2.1 ∈ gw := gw_at 489 (by decide +kernel) rfl
theorem fw_X4_18 : Cond.fieldLink RX4 18 "LikePages$Past" (TX4 1).2.1 (TX4 1).2.2.1 ∈ gw := gw_at 490 (by decide +kernel) rfl
theorem fw_X4_21 : Cond.fieldLink RX4 21 "LikePages$Past" (TX4 2).2.1 (TX4 2).2.2.1 ∈ gw := gw_at 491 (by decide +kernel) rfl
theorem fw_X4_27 : Cond.fieldLink RX4 27 "LikePages$Past" (TX4 3).2.1 (TX4 3).2.2.1 ∈ gw := gw_at 492 (by decide +kernel) rfl
theorem fw_X4_39 : Cond.fieldLink RX4 39 "LikePages$State" (TX7 11).2.1 (TX7 11).2.2.1 ∈ gw := gw_at 242 (by decide +kernel) rfl
theorem fw_X4_58 : Cond.fieldLink RX4 58 "LikePages$State" (TX7 12).2.1 (TX7 12).2.2.1 ∈ gw := gw_at 243 (by decide +kernel) rfl
theorem fw_X7_62 : Cond.fieldLink RX7 62 "LikePages$State" (TX7 10).2.1 (TX7 10).2.2.1 ∈ gw := gw_at 241 (by decide +kernel) rfl
theorem fw_X7_52 : Cond.fieldLink RX7 52 "LikePages$State" (TX7 1).2.1 (TX7 1).2.2.1 ∈ gw := gw_at 213 (by decide +kernel) rfl
theorem fw_X7_55 : Cond.fieldLink RX7 55 "LikePages$State" (TX7 5).2.1 (TX7 5).2.2.1 ∈ gw := gw_at 223 (by decide +kernel) rfl
theorem fw_X5_9 : Cond.fieldLink RX5 9 "LikePages$Replies" (TX5 0).2.1 (TX5 0).2.2.1 ∈ gw := gw_at 551 (by decide +kernel) rfl
theorem fw_X5_15 : Cond.fieldLink RX5 15 "LikePages$Replies" (TX5 1).2.1 (TX5 1).2.2.1 ∈ gw := gw_at 553 (by decide +kernel) rfl
theorem fw_X6_9 : Cond.fieldLink RX6 9 "LikePages$Search" (TX6 4).2.1 (TX6 4).2.2.1 ∈ gw := gw_at 384 (by decide +kernel) rfl
theorem fw_X6_15 : Cond.fieldLink RX6 15 "LikePages$Search" (TX6 10).2.1 (TX6 10).2.2.1 ∈ gw := gw_at 390 (by decide +kernel) rfl
theorem fw_X6_19 : Cond.fieldLink RX6 19 "LikePages$Search" (TX6 11).2.1 (TX6 11).2.2.1 ∈ gw := gw_at 391 (by decide +kernel) rfl
theorem fw_X6_22 : Cond.fieldLink RX6 22 "LikePages$Search" (TX6 12).2.1 (TX6 12).2.2.1 ∈ gw := gw_at 392 (by decide +kernel) rfl
theorem fw_X6_25 : Cond.fieldLink RX6 25 "LikePages$Search" (TX6 0).2.1 (TX6 0).2.2.1 ∈ gw := gw_at 380 (by decide +kernel) rfl
theorem fw_X6_29 : Cond.fieldLink RX6 29 "LikePages$Search" (TX6 1).2.1 (TX6 1).2.2.1 ∈ gw := gw_at 381 (by decide +kernel) rfl
theorem fw_X6_33 : Cond.fieldLink RX6 33 "LikePages$Search" (TX6 2).2.1 (TX6 2).2.2.1 ∈ gw := gw_at 382 (by decide +kernel) rfl
theorem fw_X6_37 : Cond.fieldLink RX6 37 "LikePages$Search" (TX6 13).2.1 (TX6 13).2.2.1 ∈ gw := gw_at 394 (by decide +kernel) rfl
theorem fw_X6_86 : Cond.fieldLink RX6 86 "LikePages$Page" (TX3 11).2.1 (TX3 11).2.2.1 ∈ gw := gw_at 115 (by decide +kernel) rfl
theorem fw_X6_102 : Cond.fieldLink RX6 102 "LikePages$Page" (TX3 12).2.1 (TX3 12).2.2.1 ∈ gw := gw_at 116 (by decide +kernel) rfl
theorem fw_X6_68 : Cond.fieldLink RX6 68 "LikePages$Search" (TX6 9).2.1 (TX6 9).2.2.1 ∈ gw := gw_at 389 (by decide +kernel) rfl
theorem fw_X6_113 : Cond.fieldLink RX6 113 "LikePages$Page" (TX3 13).2.1 (TX3 13).2.2.1 ∈ gw := gw_at 117 (by decide +kernel) rfl
theorem fw_X6_77 : Cond.fieldLink RX6 77 "LikePages$State" (TX7 9).2.1 (TX7 9).2.2.1 ∈ gw := gw_at 235 (by decide +kernel) rfl
theorem fw_X6_50 : Cond.fieldLink RX6 50 "LikePages$Search" (TX6 7).2.1 (TX6 7).2.2.1 ∈ gw := gw_at 387 (by decide +kernel) rfl
theorem fw_X6_47 : Cond.fieldLink RX6 47 "LikePages$Search" (TX6 6).2.1 (TX6 6).2.2.1 ∈ gw := gw_at 386 (by decide +kernel) rfl
theorem fw_X6_53 : Cond.fieldLink RX6 53 "LikePages$Search" (TX6 8).2.1 (TX6 8).2.2.1 ∈ gw := gw_at 388 (by decide +kernel) rfl
theorem fw_X6_138 : Cond.fieldLink RX6 138 "LikePages$Page" (TX3 4).2.1 (TX3 4).2.2.1 ∈ gw := gw_at 99 (by decide +kernel) rfl
theorem fw_X6_117 : Cond.fieldLink RX6 117 "LikePages$Page" (TX3 1).2.1 (TX3 1).2.2.1 ∈ gw := gw_at 82 (by decide +kernel) rfl
theorem fw_X6_124 : Cond.fieldLink RX6 124 "LikePages$Page" (TX3 3).2.1 (TX3 3).2.2.1 ∈ gw := gw_at 94 (by decide +kernel) rfl
theorem fw_X6_43 : Cond.fieldLink RX6 43 "LikePages$Search" (TX6 5).2.1 (TX6 5).2.2.1 ∈ gw := gw_at 385 (by decide +kernel) rfl
theorem fw_X6_59 : Cond.fieldLink RX6 59 "LikePages$Search" (TX6 14).2.1 (TX6 14).2.2.1 ∈ gw := gw_at 396 (by decide +kernel) rfl
theorem fw_X6_153 : Cond.fieldLink RX6 153 "LikePages$State" (TX7 6).2.1 (TX7 6).2.2.1 ∈ gw := gw_at 228 (by decide +kernel) rfl
theorem fw_X6_40 : Cond.fieldLink RX6 40 "LikePages$Search" (TX6 3).2.1 (TX6 3).2.2.1 ∈ gw := gw_at 383 (by decide +kernel) rfl
theorem fw_X6_156 : Cond.fieldLink RX6 156 "LikePages$State" (TX7 0).2.1 (TX7 0).2.2.1 ∈ gw := gw_at 211 (by decide +kernel) rfl
theorem fw_X6_131 : Cond.fieldLink RX6 131 "LikePages$Page" (TX3 0).2.1 (TX3 0).2.2.1 ∈ gw := gw_at 78 (by decide +kernel) rfl
theorem fw_X6_145 : Cond.fieldLink RX6 145 "LikePages$Page" (TX3 5).2.1 (TX3 5).2.2.1 ∈ gw := gw_at 104 (by decide +kernel) rfl
theorem fw_X6_116 : Cond.fieldLink RX6 116 "LikePages$Page" (TX3 2).2.1 (TX3 2).2.2.1 ∈ gw := gw_at 88 (by decide +kernel) rfl
theorem fw_X6_62 : Cond.fieldLink RX6 62 "LikePages$Search" (TX6 15).2.1 (TX6 15).2.2.1 ∈ gw := gw_at 398 (by decide +kernel) rfl
theorem fw_X6_65 : Cond.fieldLink RX6 65 "LikePages$Search" (TX6 16).2.1 (TX6 16).2.2.1 ∈ gw := gw_at 400 (by decide +kernel) rfl
theorem fw_X6_91 : Cond.fieldLink RX6 91 "LikePages$State" (TX7 10).2.1 (TX7 10).2.2.1 ∈ gw := gw_at 239 (by decide +kernel) rfl
theorem fw_X6_56 : Cond.fieldLink RX6 56 "LikePages$Search" (TX6 17).2.1 (TX6 17).2.2.1 ∈ gw := gw_at 402 (by decide +kernel) rfl
theorem fw_X8_9 : Cond.fieldLink RX8 9 "LikePages$Survey" (TX8 5).2.1 (TX8 5).2.2.1 ∈ gw := gw_at 455 (by decide +kernel) rfl
theorem fw_X8_15 : Cond.fieldLink RX8 15 "LikePages$Survey" (TX8 6).2.1 (TX8 6).2.2.1 ∈ gw := gw_at 457 (by decide +kernel) rfl
theorem fw_X8_18 : Cond.fieldLink RX8 18 "LikePages$Survey" (TX8 7).2.1 (TX8 7).2.2.1 ∈ gw := gw_at 458 (by decide +kernel) rfl
theorem fw_X8_21 : Cond.fieldLink RX8 21 "LikePages$Survey" (TX8 8).2.1 (TX8 8).2.2.1 ∈ gw := gw_at 459 (by decide +kernel) rfl
theorem fw_X8_24 : Cond.fieldLink RX8 24 "LikePages$Survey" (TX8 0).2.1 (TX8 0).2.2.1 ∈ gw := gw_at 447 (by decide +kernel) rfl
theorem fw_X8_28 : Cond.fieldLink RX8 28 "LikePages$Survey" (TX8 1).2.1 (TX8 1).2.2.1 ∈ gw := gw_at 448 (by decide +kernel) rfl
theorem fw_X8_39 : Cond.fieldLink RX8 39 "LikePages$Survey" (TX8 4).2.1 (TX8 4).2.2.1 ∈ gw := gw_at 453 (by decide +kernel) rfl
theorem fw_X8_36 : Cond.fieldLink RX8 36 "LikePages$Survey" (TX8 3).2.1 (TX8 3).2.2.1 ∈ gw := gw_at 451 (by decide +kernel) rfl
theorem fw_X8_32 : Cond.fieldLink RX8 32 "LikePages$Survey" (TX8 2).2.1 (TX8 2).2.2.1 ∈ gw := gw_at 449 (by decide +kernel) rfl
theorem fw_X8_65 : Cond.fieldLink RX8 65 "LikePages$State" (TX7 1).2.1 (TX7 1).2.2.1 ∈ gw := gw_at 214 (by decide +kernel) rfl
theorem fw_X9_9 : Cond.fieldLink RX9 9 "LikePages$Tree" (TX9 2).2.1 (TX9 2).2.2.1 ∈ gw := gw_at 326 (by decide +kernel) rfl
theorem fw_X9_15 : Cond.fieldLink RX9 15 "LikePages$Tree" (TX9 3).2.1 (TX9 3).2.2.1 ∈ gw := gw_at 327 (by decide +kernel) rfl
theorem fw_X9_18 : Cond.fieldLink RX9 18 "LikePages$Tree" (TX9 4).2.1 (TX9 4).2.2.1 ∈ gw := gw_at 328 (by decide +kernel) rfl
theorem fw_X9_22 : Cond.fieldLink RX9 22 "LikePages$Tree" (TX9 0).2.1 (TX9 0).2.2.1 ∈ gw := gw_at 324 (by decide +kernel) rfl
theorem fw_X9_26 : Cond.fieldLink RX9 26 "LikePages$Tree" (TX9 1).2.1 (TX9 1).2.2.1 ∈ gw := gw_at 325 (by decide +kernel) rfl
theorem fw_X9_69 : Cond.fieldLink RX9 69 "LikePages$Page" (TX3 4).2.1 (TX3 4).2.2.1 ∈ gw := gw_at 97 (by decide +kernel) rfl
theorem fw_X9_75 : Cond.fieldLink RX9 75 "LikePages$Page" (TX3 2).2.1 (TX3 2).2.2.1 ∈ gw := gw_at 86 (by decide +kernel) rfl
theorem fw_X9_60 : Cond.fieldLink RX9 60 "LikePages$Page" (TX3 3).2.1 (TX3 3).2.2.1 ∈ gw := gw_at 92 (by decide +kernel) rfl
theorem fw_X9_92 : Cond.fieldLink RX9 92 "LikePages$Tree" (TX9 5).2.1 (TX9 5).2.2.1 ∈ gw := gw_at 329 (by decide +kernel) rfl
theorem fw_X9_101 : Cond.fieldLink RX9 101 "LikePages$Tree" (TX9 6).2.1 (TX9 6).2.2.1 ∈ gw := gw_at 330 (by decide +kernel) rfl
theorem fw_X9_89 : Cond.fieldLink RX9 89 "LikePages$Tree" (TX9 7).2.1 (TX9 7).2.2.1 ∈ gw := gw_at 331 (by decide +kernel) rfl
theorem fw_X9_122 : Cond.fieldLink RX9 122 "LikePages$Page" (TX3 1).2.1 (TX3 1).2.2.1 ∈ gw := gw_at 83 (by decide +kernel) rfl
theorem fw_X9_98 : Cond.fieldLink RX9 98 "LikePages$Tree" (TX9 8).2.1 (TX9 8).2.2.1 ∈ gw := gw_at 332 (by decide +kernel) rfl
theorem fw_X9_72 : Cond.fieldLink RX9 72 "LikePages$Page" (TX3 5).2.1 (TX3 5).2.2.1 ∈ gw := gw_at 102 (by decide +kernel) rfl
theorem fw_X9_50 : Cond.fieldLink RX9 50 "LikePages$Page" (TX3 0).2.1 (TX3 0).2.2.1 ∈ gw := gw_at 77 (by decide +kernel) rfl
theorem fw_X9_104 : Cond.fieldLink RX9 104 "LikePages$Tree" (TX9 9).2.1 (TX9 9).2.2.1 ∈ gw := gw_at 333 (by decide +kernel) rfl
theorem fw_X9_42 : Cond.fieldLink RX9 42 "LikePages$State" (TX7 10).2.1 (TX7 10).2.2.1 ∈ gw := gw_at 238 (by decide +kernel) rfl
theorem fw_X9_82 : Cond.fieldLink RX9 82 "LikePages$State" (TX7 7).2.1 (TX7 7).2.2.1 ∈ gw := gw_at 230 (by decide +kernel) rfl
theorem fw_X9_35 : Cond.fieldLink RX9 35 "LikePages$State" (TX7 0).2.1 (TX7 0).2.2.1 ∈ gw := gw_at 209 (by decide +kernel) rfl
theorem fw_X9_125 : Cond.fieldLink RX9 125 "LikePages$State" (TX7 9).2.1 (TX7 9).2.2.1 ∈ gw := gw_at 237 (by decide +kernel) rfl
theorem fw_X10_12 : Cond.fieldLink RX10 12 "LikePages$Walk" (TX10 2).2.1 (TX10 2).2.2.1 ∈ gw := gw_at 366 (by decide +kernel) rfl
theorem fw_X10_18 : Cond.fieldLink RX10 18 "LikePages$Walk" (TX10 0).2.1 (TX10 0).2.2.1 ∈ gw := gw_at 364 (by decide +kernel) rfl
theorem fw_X10_22 : Cond.fieldLink RX10 22 "LikePages$Walk" (TX10 1).2.1 (TX10 1).2.2.1 ∈ gw := gw_at 365 (by decide +kernel) rfl
theorem fw_X10_53 : Cond.fieldLink RX10 53 "LikePages$Page" (TX3 2).2.1 (TX3 2).2.2.1 ∈ gw := gw_at 87 (by decide +kernel) rfl
theorem fw_X10_45 : Cond.fieldLink RX10 45 "LikePages$Page" (TX3 0).2.1 (TX3 0).2.2.1 ∈ gw := gw_at 76 (by decide +kernel) rfl
theorem fw_X10_64 : Cond.fieldLink RX10 64 "LikePages$Page" (TX3 5).2.1 (TX3 5).2.2.1 ∈ gw := gw_at 103 (by decide +kernel) rfl
theorem fw_X10_92 : Cond.fieldLink RX10 92 "LikePages$Page" (TX3 8).2.1 (TX3 8).2.2.1 ∈ gw := gw_at 109 (by decide +kernel) rfl
theorem fw_X10_56 : Cond.fieldLink RX10 56 "LikePages$Page" (TX3 4).2.1 (TX3 4).2.2.1 ∈ gw := gw_at 98 (by decide +kernel) rfl
theorem fw_X10_95 : Cond.fieldLink RX10 95 "LikePages$Page" (TX3 9).2.1 (TX3 9).2.2.1 ∈ gw := gw_at 111 (by decide +kernel) rfl
theorem fw_X10_71 : Cond.fieldLink RX10 71 "LikePages$Page" (TX3 6).2.1 (TX3 6).2.2.1 ∈ gw := gw_at 106 (by decide +kernel) rfl
theorem fw_X10_74 : Cond.fieldLink RX10 74 "LikePages$Page" (TX3 7).2.1 (TX3 7).2.2.1 ∈ gw := gw_at 108 (by decide +kernel) rfl
theorem fw_X10_112 : Cond.fieldLink RX10 112 "LikePages$Page" (TX3 10).2.1 (TX3 10).2.2.1 ∈ gw := gw_at 113 (by decide +kernel) rfl
theorem fw_X10_26 : Cond.fieldLink RX10 26 "LikePages$State" (TX7 9).2.1 (TX7 9).2.2.1 ∈ gw := gw_at 234 (by decide +kernel) rfl
theorem fw_X10_89 : Cond.fieldLink RX10 89 "LikePages$State" (TX7 10).2.1 (TX7 10).2.2.1 ∈ gw := gw_at 240 (by decide +kernel) rfl
theorem fw_X10_77 : Cond.fieldLink RX10 77 "LikePages$Page" (TX3 3).2.1 (TX3 3).2.2.1 ∈ gw := gw_at 93 (by decide +kernel) rfl
theorem fw_X11_12 : Cond.fieldLink RX11 12 "LikePages" (TX11 0).2.1 (TX11 0).2.2.1 ∈ gw := gw_at 560 (by decide +kernel) rfl
theorem fw_X11_19 : Cond.fieldLink RX11 19 "LikePages" (TX11 1).2.1 (TX11 1).2.2.1 ∈ gw := gw_at 561 (by decide +kernel) rfl
theorem fw_X11_28 : Cond.fieldLink RX11 28 "LikePages" (TX11 2).2.1 (TX11 2).2.2.1 ∈ gw := gw_at 562 (by decide +kernel) rfl
theorem fw_X11_37 : Cond.fieldLink RX11 37 "LikePages" (TX11 3).2.1 (TX11 3).2.2.1 ∈ gw := gw_at 563 (by decide +kernel) rfl
theorem fw_X11_44 : Cond.fieldLink RX11 44 "LikePages" (TX11 4).2.1 (TX11 4).2.2.1 ∈ gw := gw_at 564 (by decide +kernel) rfl
theorem fw_X11_53 : Cond.fieldLink RX11 53 "LikePages" (TX11 5).2.1 (TX11 5).2.2.1 ∈ gw := gw_at 565 (by decide +kernel) rfl
theorem fw_X11_60 : Cond.fieldLink RX11 60 "LikePages" (TX11 6).2.1 (TX11 6).2.2.1 ∈ gw := gw_at 566 (by decide +kernel) rfl
theorem fw_X11_67 : Cond.fieldLink RX11 67 "LikePages" (TX11 7).2.1 (TX11 7).2.2.1 ∈ gw := gw_at 567 (by decide +kernel) rfl
theorem fw_X11_74 : Cond.fieldLink RX11 74 "LikePages" (TX11 8).2.1 (TX11 8).2.2.1 ∈ gw := gw_at 568 (by decide +kernel) rfl
theorem fw_X11_81 : Cond.fieldLink RX11 81 "LikePages" (TX11 9).2.1 (TX11 9).2.2.1 ∈ gw := gw_at 569 (by decide +kernel) rfl
theorem fw_X11_196 : Cond.fieldLink RX11 196 "LikePages$State" (TX7 1).2.1 (TX7 1).2.2.1 ∈ gw := gw_at 215 (by decide +kernel) rfl
theorem fw_X11_110 : Cond.fieldLink RX11 110 "LikePages$State" (TX7 6).2.1 (TX7 6).2.2.1 ∈ gw := gw_at 226 (by decide +kernel) rfl
theorem fw_X11_120 : Cond.fieldLink RX11 120 "LikePages$State" (TX7 7).2.1 (TX7 7).2.2.1 ∈ gw := gw_at 231 (by decide +kernel) rfl
theorem fw_X11_129 : Cond.fieldLink RX11 129 "LikePages$State" (TX7 5).2.1 (TX7 5).2.2.1 ∈ gw := gw_at 224 (by decide +kernel) rfl
theorem fw_X11_136 : Cond.fieldLink RX11 136 "LikePages$State" (TX7 9).2.1 (TX7 9).2.2.1 ∈ gw := gw_at 236 (by decide +kernel) rfl
theorem fw_X11_157 : Cond.fieldLink RX11 157 "LikePages$Commands" (TX0 1).2.1 (TX0 1).2.2.1 ∈ gw := gw_at 510 (by decide +kernel) rfl
theorem fw_X11_373 : Cond.fieldLink RX11 373 "LikePages$Search" (TX6 12).2.1 (TX6 12).2.2.1 ∈ gw := gw_at 393 (by decide +kernel) rfl
theorem fw_X11_166 : Cond.fieldLink RX11 166 "LikePages$Commands" (TX0 6).2.1 (TX0 6).2.2.1 ∈ gw := gw_at 520 (by decide +kernel) rfl
theorem fw_X11_160 : Cond.fieldLink RX11 160 "LikePages$Replies" (TX5 1).2.1 (TX5 1).2.2.1 ∈ gw := gw_at 554 (by decide +kernel) rfl
theorem fw_X11_187 : Cond.fieldLink RX11 187 "LikePages$Replies" (TX5 0).2.1 (TX5 0).2.2.1 ∈ gw := gw_at 552 (by decide +kernel) rfl
theorem fw_X11_214 : Cond.fieldLink RX11 214 "LikePages$State" (TX7 0).2.1 (TX7 0).2.2.1 ∈ gw := gw_at 212 (by decide +kernel) rfl
theorem fw_X11_228 : Cond.fieldLink RX11 228 "LikePages$Page" (TX3 0).2.1 (TX3 0).2.2.1 ∈ gw := gw_at 79 (by decide +kernel) rfl
theorem fw_X11_234 : Cond.fieldLink RX11 234 "LikePages$Page" (TX3 2).2.1 (TX3 2).2.2.1 ∈ gw := gw_at 89 (by decide +kernel) rfl
theorem fw_X11_235 : Cond.fieldLink RX11 235 "LikePages$Page" (TX3 1).2.1 (TX3 1).2.2.1 ∈ gw := gw_at 84 (by decide +kernel) rfl
theorem fw_X11_238 : Cond.fieldLink RX11 238 "LikePages$Page" (TX3 9).2.1 (TX3 9).2.2.1 ∈ gw := gw_at 112 (by decide +kernel) rfl
theorem fw_X11_241 : Cond.fieldLink RX11 241 "LikePages$Page" (TX3 8).2.1 (TX3 8).2.2.1 ∈ gw := gw_at 110 (by decide +kernel) rfl
theorem fw_X11_244 : Cond.fieldLink RX11 244 "LikePages$Page" (TX3 10).2.1 (TX3 10).2.2.1 ∈ gw := gw_at 114 (by decide +kernel) rfl
theorem fw_X11_247 : Cond.fieldLink RX11 247 "LikePages$Page" (TX3 3).2.1 (TX3 3).2.2.1 ∈ gw := gw_at 95 (by decide +kernel) rfl
theorem fw_X11_250 : Cond.fieldLink RX11 250 "LikePages$Page" (TX3 4).2.1 (TX3 4).2.2.1 ∈ gw := gw_at 100 (by decide +kernel) rfl
theorem fw_X11_257 : Cond.fieldLink RX11 257 "LikePages$Page" (TX3 5).2.1 (TX3 5).2.2.1 ∈ gw := gw_at 105 (by decide +kernel) rfl
theorem fw_X11_263 : Cond.fieldLink RX11 263 "LikePages$Page" (TX3 6).2.1 (TX3 6).2.2.1 ∈ gw := gw_at 107 (by decide +kernel) rfl
theorem fw_X11_279 : Cond.fieldLink RX11 279 "LikePages$Search" (TX6 17).2.1 (TX6 17).2.2.1 ∈ gw := gw_at 403 (by decide +kernel) rfl
theorem fw_X11_282 : Cond.fieldLink RX11 282 "LikePages$Search" (TX6 14).2.1 (TX6 14).2.2.1 ∈ gw := gw_at 397 (by decide +kernel) rfl
theorem fw_X11_285 : Cond.fieldLink RX11 285 "LikePages$Search" (TX6 15).2.1 (TX6 15).2.2.1 ∈ gw := gw_at 399 (by decide +kernel) rfl
theorem fw_X11_288 : Cond.fieldLink RX11 288 "LikePages$Search" (TX6 16).2.1 (TX6 16).2.2.1 ∈ gw := gw_at 401 (by decide +kernel) rfl
theorem fw_X11_291 : Cond.fieldLink RX11 291 "LikePages$Search" (TX6 13).2.1 (TX6 13).2.2.1 ∈ gw := gw_at 395 (by decide +kernel) rfl
theorem fw_X11_295 : Cond.fieldLink RX11 295 "LikePages$Survey" (TX8 2).2.1 (TX8 2).2.2.1 ∈ gw := gw_at 450 (by decide +kernel) rfl
theorem fw_X11_298 : Cond.fieldLink RX11 298 "LikePages$Survey" (TX8 3).2.1 (TX8 3).2.2.1 ∈ gw := gw_at 452 (by decide +kernel) rfl
theorem fw_X11_301 : Cond.fieldLink RX11 301 "LikePages$Survey" (TX8 4).2.1 (TX8 4).2.2.1 ∈ gw := gw_at 454 (by decide +kernel) rfl
theorem fw_X11_338 : Cond.fieldLink RX11 338 "LikePages$Survey" (TX8 5).2.1 (TX8 5).2.2.1 ∈ gw := gw_at 456 (by decide +kernel) rfl
theorem fw_X0_31 : Cond.fieldLink RX0 31 "LikePages$Commands" (TX0 5).2.1 (TX0 5).2.2.1 ∈ gw := gw_at 517 (by decide +kernel) rfl
theorem fw_X11_173 : Cond.fieldLink RX11 173 "LikePages$Commands" (TX0 2).2.1 (TX0 2).2.2.1 ∈ gw := gw_at 512 (by decide +kernel) rfl
theorem fw_X11_177 : Cond.fieldLink RX11 177 "LikePages$Commands" (TX0 3).2.1 (TX0 3).2.2.1 ∈ gw := gw_at 514 (by decide +kernel) rfl
theorem fw_X11_180 : Cond.fieldLink RX11 180 "LikePages$Commands" (TX0 4).2.1 (TX0 4).2.2.1 ∈ gw := gw_at 516 (by decide +kernel) rfl
theorem fw_X11_169 : Cond.fieldLink RX11 169 "LikePages$Commands" (TX0 5).2.1 (TX0 5).2.2.1 ∈ gw := gw_at 518 (by decide +kernel) rfl
theorem kn_X2_24 : Cond.constant RX2 24 (531440) ∈ gw := gw_at 603 (by decide +kernel) rfl
theorem kn_J8_200 : Cond.constant RJ8 200 (2147483639) ∈ gw := gw_at 169 (by decide +kernel) rfl
theorem kk_X0_102 : Ks RX0 102 yX0_sortOf cX0_sortOf 1 (some .int) 1 := ⟨gw_at 913 (by decide +kernel) rfl, gw_at 18 (by decide +kernel) rfl, gw_at 911 (by decide +kernel) rfl, by decide +kernel, by decide +kernel, by decide +kernel⟩
theorem kk_X0_41 : Ks RX0 41 yX0_goOn cX0_goOn 1 none 0 := ⟨gw_at 910 (by decide +kernel) rfl, gw_at 18 (by decide +kernel) rfl, gw_at 907 (by decide +kernel) rfl, by decide +kernel, by decide +kernel, by decide +kernel⟩
theorem kk_X1_29 : Ks RX1 29 yJ7_fill_53178 cJ7_fill_53178 4 none 2 := ⟨gw_at 298 (by decide +kernel) rfl, gw_at 9 (by decide +kernel) rfl, gw_at 296 (by decide +kernel) rfl, by decide +kernel, by decide +kernel, by decide +kernel⟩
theorem kk_X1_43 : Ks RX1 43 yX1_of cX1_of 3 (some .int) 2 := ⟨gw_at 728 (by decide +kernel) rfl, gw_at 12 (by decide +kernel) rfl, gw_at 1157 (by decide +kernel) rfl, by decide +kernel, by decide +kernel, by decide +kernel⟩
theorem kk_X2_25 : Ks RX2 25 yX2_spellOut cX2_spellOut 5 (some .int) 2 := ⟨gw_at 699 (by decide +kernel) rfl, gw_at 11 (by decide +kernel) rfl, gw_at 697 (by decide +kernel) rfl, by decide +kernel, by decide +kernel, by decide +kernel⟩
theorem kk_X2_29 : Ks RX2 29 yX2_byEdit cX2_byEdit 6 (some .int) 2 := ⟨gw_at 703 (by decide +kernel) rfl, gw_at 11 (by decide +kernel) rfl, gw_at 700 (by decide +kernel) rfl, by decide +kernel, by decide +kernel, by decide +kernel⟩
theorem kk_X2_33 : Ks RX2 33 yX2_byPlace cX2_byPlace 3 (some .int) 0 := ⟨gw_at 707 (by decide +kernel) rfl, gw_at 11 (by decide +kernel) rfl, gw_at 704 (by decide +kernel) rfl, by decide +kernel, by decide +kernel, by decide +kernel⟩
theorem kk_X2_37 : Ks RX2 37 yX2_bySum cX2_bySum 3 (some .int) 0 := ⟨gw_at 711 (by decide +kernel) rfl, gw_at 11 (by decide +kernel) rfl, gw_at 708 (by decide +kernel) rfl, by decide +kernel, by decide +kernel, by decide +kernel⟩
theorem kk_X2_40 : Ks RX2 40 yX2_byHead cX2_byHead 2 (some .int) 0 := ⟨gw_at 715 (by decide +kernel) rfl, gw_at 11 (by decide +kernel) rfl, gw_at 712 (by decide +kernel) rfl, by decide +kernel, by decide +kernel, by decide +kernel⟩
theorem kk_X1_77 : Ks RX1 77 yX2_between cX2_between 6 (some .int) 3 := ⟨gw_at 696 (by decide +kernel) rfl, gw_at 11 (by decide +kernel) rfl, gw_at 693 (by decide +kernel) rfl, by decide +kernel, by decide +kernel, by decide +kernel⟩
theorem kk_X1_62 : Ks RX1 62 yX1_learnUnknown cX1_learnUnknown 5 none 0 := ⟨gw_at 692 (by decide +kernel) rfl, gw_at 12 (by decide +kernel) rfl, gw_at 689 (by decide +kernel) rfl, by decide +kernel, by decide +kernel, by decide +kernel⟩
theorem kk_X1_58 : Ks RX1 58 yX1_unlearn cX1_unlearn 3 none 1 := ⟨gw_at 688 (by decide +kernel) rfl, gw_at 12 (by decide +kernel) rfl, gw_at 685 (by decide +kernel) rfl, by decide +kernel, by decide +kernel, by decide +kernel⟩
theorem kk_Jxc12de_1 : Ks RJxc12de 1 yJxa1e45_init_da8c8 cJxa1e45_init_da8c8 1 none 0 := ⟨gw_at 52 (by decide +kernel) rfl, gw_at 3 (by decide +kernel) rfl, gw_at 50 (by decide +kernel) rfl, by decide +kernel, by decide +kernel, by decide +kernel⟩
theorem kk_Jx4a65c_1 : Ks RJx4a65c 1 yJxc12de_init_da8c8 cJxc12de_init_da8c8 1 none 0 := ⟨gw_at 49 (by decide +kernel) rfl, gw_at 4 (by decide +kernel) rfl, gw_at 47 (by decide +kernel) rfl, by decide +kernel, by decide +kernel, by decide +kernel⟩
theorem kk_J7_300 : Ks RJ7 300 yJ7_copyOf_6403c cJ7_copyOf_6403c 4 (some (.array (.object "java/lang/Object"))) 3 := ⟨gw_at 196 (by decide +kernel) rfl, gw_at 9 (by decide +kernel) rfl, gw_at 194 (by decide +kernel) rfl, by decide +kernel, by decide +kernel, by decide +kernel⟩
theorem kk_Jx4a65c_73 : Ks RJx4a65c 73 yJ8_newLength_cabcc cJ8_newLength_cabcc 4 (some .int) 3 := ⟨gw_at 165 (by decide +kernel) rfl, gw_at 7 (by decide +kernel) rfl, gw_at 163 (by decide +kernel) rfl, by decide +kernel, by decide +kernel, by decide +kernel⟩
theorem kk_Jx4a65c_66 : Ks RJx4a65c 66 yJ7_copyOf_1904c cJ7_copyOf_1904c 2 (some (.array (.object "java/lang/Object"))) 2 := ⟨gw_at 175 (by decide +kernel) rfl, gw_at 9 (by decide +kernel) rfl, gw_at 173 (by decide +kernel) rfl, by decide +kernel, by decide +kernel, by decide +kernel⟩
theorem kk_Jx4a65c_69 : Ks RJx4a65c 69 yJx4a65c_grow_92f84 cJx4a65c_grow_92f84 4 (some (.array (.object "java/lang/Object"))) 1 := ⟨gw_at 162 (by decide +kernel) rfl, gw_at 5 (by decide +kernel) rfl, gw_at 159 (by decide +kernel) rfl, by decide +kernel, by decide +kernel, by decide +kernel⟩
theorem kk_Jx4a65c_129 : Ks RJx4a65c 129 yJx4a65c_grow_d5877 cJx4a65c_grow_d5877 1 (some (.array (.object "java/lang/Object"))) 0 := ⟨gw_at 158 (by decide +kernel) rfl, gw_at 5 (by decide +kernel) rfl, gw_at 155 (by decide +kernel) rfl, by decide +kernel, by decide +kernel, by decide +kernel⟩
theorem kk_Jx4a65c_131 : Ks RJx4a65c 131 yJx4a65c_add_72be8 cJx4a65c_add_72be8 4 none 3 := ⟨gw_at 154 (by decide +kernel) rfl, gw_at 5 (by decide +kernel) rfl, gw_at 151 (by decide +kernel) rfl, by decide +kernel, by decide +kernel, by decide +kernel⟩
theorem kk_X7_33 : Ks RX7 33 yJx4a65c_init_da8c8 cJx4a65c_init_da8c8 1 none 0 := ⟨gw_at 46 (by decide +kernel) rfl, gw_at 5 (by decide +kernel) rfl, gw_at 44 (by decide +kernel) rfl, by decide +kernel, by decide +kernel, by decide +kernel⟩
theorem kk_X7_44 : Ks RX7 44 yJx4a65c_add_9ea2d cJx4a65c_add_9ea2d 2 (some .boolean) 1 := ⟨gw_at 150 (by decide +kernel) rfl, gw_at 5 (by decide +kernel) rfl, gw_at 147 (by decide +kernel) rfl, by decide +kernel, by decide +kernel, by decide +kernel⟩
theorem kk_X4_11 : Ks RX4 11 yJx4a65c_init_da8c8 cJx4a65c_init_da8c8 1 none 0 := ⟨gw_at 46 (by decide +kernel) rfl, gw_at 5 (by decide +kernel) rfl, gw_at 486 (by decide +kernel) rfl, by decide +kernel, by decide +kernel, by decide +kernel⟩
theorem kk_X4_26 : Ks RX4 26 yX7_init cX7_init 1 none 0 := ⟨gw_at 40 (by decide +kernel) rfl, gw_at 2 (by decide +kernel) rfl, gw_at 488 (by decide +kernel) rfl, by decide +kernel, by decide +kernel, by decide +kernel⟩
theorem kk_X4_31 : Ks RX4 31 yJx4a65c_size_8abf5 cJx4a65c_size_8abf5 1 (some .int) 0 := ⟨gw_at 615 (by decide +kernel) rfl, gw_at 5 (by decide +kernel) rfl, gw_at 612 (by decide +kernel) rfl, by decide +kernel, by decide +kernel, by decide +kernel⟩
theorem kk_J15_105 : Ks RJ15 105 yJ3_checkIndex_8e157 cJ3_checkIndex_8e157 3 (some .int) 3 := ⟨gw_at 625 (by decide +kernel) rfl, gw_at 22 (by decide +kernel) rfl, gw_at 623 (by decide +kernel) rfl, by decide +kernel, by decide +kernel, by decide +kernel⟩
theorem kk_Jx4a65c_118 : Ks RJx4a65c 118 yJ15_checkIndex_7cf53 cJ15_checkIndex_7cf53 2 (some .int) 2 := ⟨gw_at 622 (by decide +kernel) rfl, gw_at 21 (by decide +kernel) rfl, gw_at 620 (by decide +kernel) rfl, by decide +kernel, by decide +kernel, by decide +kernel⟩
theorem kk_Jx4a65c_123 : Ks RJx4a65c 123 yJx4a65c_elementData_915e3 cJx4a65c_elementData_915e3 2 (some (.object "java/lang/Object")) 1 := ⟨gw_at 629 (by decide +kernel) rfl, gw_at 5 (by decide +kernel) rfl, gw_at 626 (by decide +kernel) rfl, by decide +kernel, by decide +kernel, by decide +kernel⟩
theorem kk_Jx4a65c_144 : Ks RJx4a65c 144 yJx4a65c_fastRemove_b59b0 cJx4a65c_fastRemove_b59b0 4 none 2 := ⟨gw_at 637 (by decide +kernel) rfl, gw_at 5 (by decide +kernel) rfl, gw_at 634 (by decide +kernel) rfl, by decide +kernel, by decide +kernel, by decide +kernel⟩
theorem kk_X4_54 : Ks RX4 54 yJx4a65c_add_9ea2d cJx4a65c_add_9ea2d 2 (some .boolean) 1 := ⟨gw_at 150 (by decide +kernel) rfl, gw_at 5 (by decide +kernel) rfl, gw_at 643 (by decide +kernel) rfl, by decide +kernel, by decide +kernel, by decide +kernel⟩
theorem kk_X4_35 : Ks RX4 35 yJx4a65c_get_915e3 cJx4a65c_get_915e3 2 (some (.object "java/lang/Object")) 1 := ⟨gw_at 619 (by decide +kernel) rfl, gw_at 5 (by decide +kernel) rfl, gw_at 616 (by decide +kernel) rfl, by decide +kernel, by decide +kernel, by decide +kernel⟩
theorem kk_X7_65 : Ks RX7 65 yJx4a65c_get_915e3 cJx4a65c_get_915e3 2 (some (.object "java/lang/Object")) 1 := ⟨gw_at 619 (by decide +kernel) rfl, gw_at 5 (by decide +kernel) rfl, gw_at 658 (by decide +kernel) rfl, by decide +kernel, by decide +kernel, by decide +kernel⟩
theorem kk_X7_73 : Ks RX7 73 yX7_at cX7_at 2 (some (.object "LikePages$Page")) 1 := ⟨gw_at 657 (by decide +kernel) rfl, gw_at 2 (by decide +kernel) rfl, gw_at 654 (by decide +kernel) rfl, by decide +kernel, by decide +kernel, by decide +kernel⟩
theorem kk_X7_77 : Ks RX7 77 yX3_empty cX3_empty 2 none 1 := ⟨gw_at 662 (by decide +kernel) rfl, gw_at 6 (by decide +kernel) rfl, gw_at 659 (by decide +kernel) rfl, by decide +kernel, by decide +kernel, by decide +kernel⟩
theorem kk_X7_69 : Ks RX7 69 yJx4a65c_size_8abf5 cJx4a65c_size_8abf5 1 (some .int) 0 := ⟨gw_at 615 (by decide +kernel) rfl, gw_at 5 (by decide +kernel) rfl, gw_at 653 (by decide +kernel) rfl, by decide +kernel, by decide +kernel, by decide +kernel⟩
theorem kk_X7_81 : Ks RX7 81 yX7_takePage cX7_takePage 3 (some .int) 1 := ⟨gw_at 652 (by decide +kernel) rfl, gw_at 2 (by decide +kernel) rfl, gw_at 649 (by decide +kernel) rfl, by decide +kernel, by decide +kernel, by decide +kernel⟩
theorem kk_X7_91 : Ks RX7 91 yX3_copyFrom cX3_copyFrom 2 none 1 := ⟨gw_at 666 (by decide +kernel) rfl, gw_at 6 (by decide +kernel) rfl, gw_at 663 (by decide +kernel) rfl, by decide +kernel, by decide +kernel, by decide +kernel⟩
theorem kk_X4_46 : Ks RX4 46 yX4_freeState cX4_freeState 3 (some (.object "LikePages$State")) 0 := ⟨gw_at 642 (by decide +kernel) rfl, gw_at 17 (by decide +kernel) rfl, gw_at 639 (by decide +kernel) rfl, by decide +kernel, by decide +kernel, by decide +kernel⟩
theorem kk_X4_50 : Ks RX4 50 yX7_copyFrom cX7_copyFrom 3 none 1 := ⟨gw_at 647 (by decide +kernel) rfl, gw_at 2 (by decide +kernel) rfl, gw_at 644 (by decide +kernel) rfl, by decide +kernel, by decide +kernel, by decide +kernel⟩
theorem kk_X4_43 : Ks RX4 43 yJx4a65c_remove_915e3 cJx4a65c_remove_915e3 4 (some (.object "java/lang/Object")) 1 := ⟨gw_at 633 (by decide +kernel) rfl, gw_at 5 (by decide +kernel) rfl, gw_at 630 (by decide +kernel) rfl, by decide +kernel, by decide +kernel, by decide +kernel⟩
theorem kk_X4_61 : Ks RX4 61 yJx4a65c_clear_da8c8 cJx4a65c_clear_da8c8 4 none 0 := ⟨gw_at 852 (by decide +kernel) rfl, gw_at 5 (by decide +kernel) rfl, gw_at 1356 (by decide +kernel) rfl, by decide +kernel, by decide +kernel, by decide +kernel⟩
theorem kk_X5_19 : Ks RX5 19 yX5_addByte cX5_addByte 2 none 1 := ⟨gw_at 999 (by decide +kernel) rfl, gw_at 19 (by decide +kernel) rfl, gw_at 1012 (by decide +kernel) rfl, by decide +kernel, by decide +kernel, by decide +kernel⟩
theorem kk_X5_27 : Ks RX5 27 yX5_addNumber cX5_addNumber 2 none 1 := ⟨gw_at 1016 (by decide +kernel) rfl, gw_at 19 (by decide +kernel) rfl, gw_at 1013 (by decide +kernel) rfl, by decide +kernel, by decide +kernel, by decide +kernel⟩
theorem kk_X5_23 : Ks RX5 23 yX5_addOk cX5_addOk 2 none 1 := ⟨gw_at 1011 (by decide +kernel) rfl, gw_at 19 (by decide +kernel) rfl, gw_at 1008 (by decide +kernel) rfl, by decide +kernel, by decide +kernel, by decide +kernel⟩
theorem kk_X6_82 : Ks RX6 82 yX7_at cX7_at 2 (some (.object "LikePages$Page")) 1 := ⟨gw_at 657 (by decide +kernel) rfl, gw_at 2 (by decide +kernel) rfl, gw_at 1025 (by decide +kernel) rfl, by decide +kernel, by decide +kernel, by decide +kernel⟩
theorem kk_X6_148 : Ks RX6 148 yX1_of cX1_of 3 (some .int) 2 := ⟨gw_at 728 (by decide +kernel) rfl, gw_at 12 (by decide +kernel) rfl, gw_at 1046 (by decide +kernel) rfl, by decide +kernel, by decide +kernel, by decide +kernel⟩
theorem kk_X6_159 : Ks RX6 159 yX2_between cX2_between 6 (some .int) 3 := ⟨gw_at 696 (by decide +kernel) rfl, gw_at 11 (by decide +kernel) rfl, gw_at 1051 (by decide +kernel) rfl, by decide +kernel, by decide +kernel, by decide +kernel⟩
theorem kk_X6_165 : Ks RX6 165 yX6_isAhead cX6_isAhead 4 (some .boolean) 3 := ⟨gw_at 1059 (by decide +kernel) rfl, gw_at 15 (by decide +kernel) rfl, gw_at 1056 (by decide +kernel) rfl, by decide +kernel, by decide +kernel, by decide +kernel⟩
theorem kk_X6_134 : Ks RX6 134 yX6_take cX6_take 5 none 2 := ⟨gw_at 1055 (by decide +kernel) rfl, gw_at 15 (by decide +kernel) rfl, gw_at 1052 (by decide +kernel) rfl, by decide +kernel, by decide +kernel, by decide +kernel⟩
theorem kk_X6_127 : Ks RX6 127 yX6_farTo cX6_farTo 2 (some .int) 1 := ⟨gw_at 1050 (by decide +kernel) rfl, gw_at 15 (by decide +kernel) rfl, gw_at 1047 (by decide +kernel) rfl, by decide +kernel, by decide +kernel, by decide +kernel⟩
theorem kk_X6_141 : Ks RX6 141 yX6_boundBelow cX6_boundBelow 3 (some .int) 2 := ⟨gw_at 1063 (by decide +kernel) rfl, gw_at 15 (by decide +kernel) rfl, gw_at 1060 (by decide +kernel) rfl, by decide +kernel, by decide +kernel, by decide +kernel⟩
theorem kk_X6_105 : Ks RX6 105 yX6_isBeyond cX6_isBeyond 2 (some .boolean) 1 := ⟨gw_at 1037 (by decide +kernel) rfl, gw_at 15 (by decide +kernel) rfl, gw_at 1034 (by decide +kernel) rfl, by decide +kernel, by decide +kernel, by decide +kernel⟩
theorem kk_X6_94 : Ks RX6 94 yX6_letWait cX6_letWait 3 none 2 := ⟨gw_at 1029 (by decide +kernel) rfl, gw_at 15 (by decide +kernel) rfl, gw_at 1026 (by decide +kernel) rfl, by decide +kernel, by decide +kernel, by decide +kernel⟩
theorem kk_X6_120 : Ks RX6 120 yX6_leastRank cX6_leastRank 5 (some .int) 2 := ⟨gw_at 1045 (by decide +kernel) rfl, gw_at 15 (by decide +kernel) rfl, gw_at 1042 (by decide +kernel) rfl, by decide +kernel, by decide +kernel, by decide +kernel⟩
theorem kk_X6_98 : Ks RX6 98 yX6_nextPage cX6_nextPage 4 (some (.object "LikePages$Page")) 0 := ⟨gw_at 1033 (by decide +kernel) rfl, gw_at 15 (by decide +kernel) rfl, gw_at 1030 (by decide +kernel) rfl, by decide +kernel, by decide +kernel, by decide +kernel⟩
theorem kk_X6_109 : Ks RX6 109 yX6_goInto cX6_goInto 5 none 1 := ⟨gw_at 1041 (by decide +kernel) rfl, gw_at 15 (by decide +kernel) rfl, gw_at 1038 (by decide +kernel) rfl, by decide +kernel, by decide +kernel, by decide +kernel⟩
theorem kk_X6_71 : Ks RX6 71 yJ7_fill_53178 cJ7_fill_53178 4 none 2 := ⟨gw_at 298 (by decide +kernel) rfl, gw_at 9 (by decide +kernel) rfl, gw_at 1024 (by decide +kernel) rfl, by decide +kernel, by decide +kernel, by decide +kernel⟩
theorem kk_X7_48 : Ks RX7 48 yX7_numberOf cX7_numberOf 3 (some .int) 1 := ⟨gw_at 607 (by decide +kernel) rfl, gw_at 2 (by decide +kernel) rfl, gw_at 672 (by decide +kernel) rfl, by decide +kernel, by decide +kernel, by decide +kernel⟩
theorem kk_X7_58 : Ks RX7 58 yX7_setTold cX7_setTold 5 none 4 := ⟨gw_at 773 (by decide +kernel) rfl, gw_at 2 (by decide +kernel) rfl, gw_at 770 (by decide +kernel) rfl, by decide +kernel, by decide +kernel, by decide +kernel⟩
theorem kk_X8_42 : Ks RX8 42 yX7_has cX7_has 2 (some .boolean) 1 := ⟨gw_at 761 (by decide +kernel) rfl, gw_at 2 (by decide +kernel) rfl, gw_at 1208 (by decide +kernel) rfl, by decide +kernel, by decide +kernel, by decide +kernel⟩
theorem kk_X8_52 : Ks RX8 52 yX1_of cX1_of 3 (some .int) 2 := ⟨gw_at 728 (by decide +kernel) rfl, gw_at 12 (by decide +kernel) rfl, gw_at 1213 (by decide +kernel) rfl, by decide +kernel, by decide +kernel, by decide +kernel⟩
theorem kk_X8_58 : Ks RX8 58 yX8_breaksBetween cX8_breaksBetween 6 (some .boolean) 3 := ⟨gw_at 1217 (by decide +kernel) rfl, gw_at 16 (by decide +kernel) rfl, gw_at 1214 (by decide +kernel) rfl, by decide +kernel, by decide +kernel, by decide +kernel⟩
theorem kk_X8_48 : Ks RX8 48 yX8_breaksFrom cX8_breaksFrom 4 (some .boolean) 2 := ⟨gw_at 1212 (by decide +kernel) rfl, gw_at 16 (by decide +kernel) rfl, gw_at 1209 (by decide +kernel) rfl, by decide +kernel, by decide +kernel, by decide +kernel⟩
theorem kk_X8_62 : Ks RX8 62 yX8_isPair cX8_isPair 3 (some .boolean) 2 := ⟨gw_at 1241 (by decide +kernel) rfl, gw_at 16 (by decide +kernel) rfl, gw_at 1238 (by decide +kernel) rfl, by decide +kernel, by decide +kernel, by decide +kernel⟩
theorem kk_X8_68 : Ks RX8 68 yX8_leastFrom cX8_leastFrom 4 (some .int) 1 := ⟨gw_at 1269 (by decide +kernel) rfl, gw_at 16 (by decide +kernel) rfl, gw_at 1266 (by decide +kernel) rfl, by decide +kernel, by decide +kernel, by decide +kernel⟩
theorem kk_X8_72 : Ks RX8 72 yX8_sumFrom cX8_sumFrom 4 (some .int) 1 := ⟨gw_at 1286 (by decide +kernel) rfl, gw_at 16 (by decide +kernel) rfl, gw_at 1283 (by decide +kernel) rfl, by decide +kernel, by decide +kernel, by decide +kernel⟩
theorem kk_X8_85 : Ks RX8 85 yX8_pivotAfter cX8_pivotAfter 5 (some .int) 1 := ⟨gw_at 1290 (by decide +kernel) rfl, gw_at 16 (by decide +kernel) rfl, gw_at 1287 (by decide +kernel) rfl, by decide +kernel, by decide +kernel, by decide +kernel⟩
theorem kk_X8_75 : Ks RX8 75 yJ7_fill_53178 cJ7_fill_53178 4 none 2 := ⟨gw_at 298 (by decide +kernel) rfl, gw_at 9 (by decide +kernel) rfl, gw_at 1278 (by decide +kernel) rfl, by decide +kernel, by decide +kernel, by decide +kernel⟩
theorem kk_X8_81 : Ks RX8 81 yX8_findMiddle cX8_findMiddle 5 (some .int) 0 := ⟨gw_at 1282 (by decide +kernel) rfl, gw_at 16 (by decide +kernel) rfl, gw_at 1279 (by decide +kernel) rfl, by decide +kernel, by decide +kernel, by decide +kernel⟩
theorem kk_X8_88 : Ks RX8 88 yX8_relabel cX8_relabel 4 none 2 := ⟨gw_at 1315 (by decide +kernel) rfl, gw_at 16 (by decide +kernel) rfl, gw_at 1312 (by decide +kernel) rfl, by decide +kernel, by decide +kernel, by decide +kernel⟩
theorem kk_X8_92 : Ks RX8 92 yX8_nearestUnchosen cX8_nearestUnchosen 4 (some .int) 1 := ⟨gw_at 1331 (by decide +kernel) rfl, gw_at 16 (by decide +kernel) rfl, gw_at 1328 (by decide +kernel) rfl, by decide +kernel, by decide +kernel, by decide +kernel⟩
theorem kk_X9_63 : Ks RX9 63 yX1_of cX1_of 3 (some .int) 2 := ⟨gw_at 728 (by decide +kernel) rfl, gw_at 12 (by decide +kernel) rfl, gw_at 725 (by decide +kernel) rfl, by decide +kernel, by decide +kernel, by decide +kernel⟩
theorem kk_X9_95 : Ks RX9 95 yX3_setEntry cX3_setEntry 5 none 4 := ⟨gw_at 749 (by decide +kernel) rfl, gw_at 6 (by decide +kernel) rfl, gw_at 746 (by decide +kernel) rfl, by decide +kernel, by decide +kernel, by decide +kernel⟩
theorem kk_X9_78 : Ks RX9 78 yX3_insertEntry cX3_insertEntry 5 none 4 := ⟨gw_at 732 (by decide +kernel) rfl, gw_at 6 (by decide +kernel) rfl, gw_at 729 (by decide +kernel) rfl, by decide +kernel, by decide +kernel, by decide +kernel⟩
theorem kk_X9_114 : Ks RX9 114 yX9_weigh cX9_weigh 8 (some .int) 3 := ⟨gw_at 740 (by decide +kernel) rfl, gw_at 13 (by decide +kernel) rfl, gw_at 737 (by decide +kernel) rfl, by decide +kernel, by decide +kernel, by decide +kernel⟩
theorem kk_X9_110 : Ks RX9 110 yX7_takePage cX7_takePage 3 (some .int) 1 := ⟨gw_at 652 (by decide +kernel) rfl, gw_at 2 (by decide +kernel) rfl, gw_at 741 (by decide +kernel) rfl, by decide +kernel, by decide +kernel, by decide +kernel⟩
theorem kk_X9_46 : Ks RX9 46 yX7_at cX7_at 2 (some (.object "LikePages$Page")) 1 := ⟨gw_at 657 (by decide +kernel) rfl, gw_at 2 (by decide +kernel) rfl, gw_at 720 (by decide +kernel) rfl, by decide +kernel, by decide +kernel, by decide +kernel⟩
theorem kk_X9_118 : Ks RX9 118 yX9_part cX9_part 5 none 2 := ⟨gw_at 745 (by decide +kernel) rfl, gw_at 13 (by decide +kernel) rfl, gw_at 742 (by decide +kernel) rfl, by decide +kernel, by decide +kernel, by decide +kernel⟩
theorem kk_X9_85 : Ks RX9 85 yX9_split cX9_split 8 none 1 := ⟨gw_at 736 (by decide +kernel) rfl, gw_at 13 (by decide +kernel) rfl, gw_at 733 (by decide +kernel) rfl, by decide +kernel, by decide +kernel, by decide +kernel⟩
theorem kk_X9_107 : Ks RX9 107 yX9_makeRoot cX9_makeRoot 3 none 1 := ⟨gw_at 753 (by decide +kernel) rfl, gw_at 13 (by decide +kernel) rfl, gw_at 750 (by decide +kernel) rfl, by decide +kernel, by decide +kernel, by decide +kernel⟩
theorem kk_X9_56 : Ks RX9 56 yX9_entryFor cX9_entryFor 11 (some .int) 2 := ⟨gw_at 724 (by decide +kernel) rfl, gw_at 13 (by decide +kernel) rfl, gw_at 721 (by decide +kernel) rfl, by decide +kernel, by decide +kernel, by decide +kernel⟩
theorem kk_X9_38 : Ks RX9 38 yX9_insert cX9_insert 8 none 1 := ⟨gw_at 719 (by decide +kernel) rfl, gw_at 13 (by decide +kernel) rfl, gw_at 798 (by decide +kernel) rfl, by decide +kernel, by decide +kernel, by decide +kernel⟩
theorem kk_X9_30 : Ks RX9 30 yX7_clearPages cX7_clearPages 1 none 0 := ⟨gw_at 797 (by decide +kernel) rfl, gw_at 2 (by decide +kernel) rfl, gw_at 794 (by decide +kernel) rfl, by decide +kernel, by decide +kernel, by decide +kernel⟩
theorem kk_X9_128 : Ks RX9 128 yX3_placeIn cX3_placeIn 3 (some .int) 1 := ⟨gw_at 781 (by decide +kernel) rfl, gw_at 6 (by decide +kernel) rfl, gw_at 778 (by decide +kernel) rfl, by decide +kernel, by decide +kernel, by decide +kernel⟩
theorem kk_X9_132 : Ks RX9 132 yX3_removeEntry cX3_removeEntry 2 none 1 := ⟨gw_at 789 (by decide +kernel) rfl, gw_at 6 (by decide +kernel) rfl, gw_at 786 (by decide +kernel) rfl, by decide +kernel, by decide +kernel, by decide +kernel⟩
theorem kk_X9_135 : Ks RX9 135 yX9_overlapsIn cX9_overlapsIn 5 (some .int) 1 := ⟨gw_at 1115 (by decide +kernel) rfl, gw_at 13 (by decide +kernel) rfl, gw_at 1112 (by decide +kernel) rfl, by decide +kernel, by decide +kernel, by decide +kernel⟩
theorem kk_X10_11 : Ks RX10 11 yJx4a65c_init_da8c8 cJx4a65c_init_da8c8 1 none 0 := ⟨gw_at 46 (by decide +kernel) rfl, gw_at 5 (by decide +kernel) rfl, gw_at 363 (by decide +kernel) rfl, by decide +kernel, by decide +kernel, by decide +kernel⟩
theorem kk_Jx4a65c_135 : Ks RJx4a65c 135 yJx4a65c_rangeCheckForAdd_d00df cJx4a65c_rangeCheckForAdd_d00df 2 none 1 := ⟨gw_at 869 (by decide +kernel) rfl, gw_at 5 (by decide +kernel) rfl, gw_at 866 (by decide +kernel) rfl, by decide +kernel, by decide +kernel, by decide +kernel⟩
theorem kk_X10_67 : Ks RX10 67 yX7_at cX7_at 2 (some (.object "LikePages$Page")) 1 := ⟨gw_at 657 (by decide +kernel) rfl, gw_at 2 (by decide +kernel) rfl, gw_at 853 (by decide +kernel) rfl, by decide +kernel, by decide +kernel, by decide +kernel⟩
theorem kk_X10_109 : Ks RX10 109 yJx4a65c_add_7a177 cJx4a65c_add_7a177 5 none 2 := ⟨gw_at 865 (by decide +kernel) rfl, gw_at 5 (by decide +kernel) rfl, gw_at 862 (by decide +kernel) rfl, by decide +kernel, by decide +kernel, by decide +kernel⟩
theorem kk_X10_39 : Ks RX10 39 yJx4a65c_get_915e3 cJx4a65c_get_915e3 2 (some (.object "java/lang/Object")) 1 := ⟨gw_at 619 (by decide +kernel) rfl, gw_at 5 (by decide +kernel) rfl, gw_at 856 (by decide +kernel) rfl, by decide +kernel, by decide +kernel, by decide +kernel⟩
theorem kk_X10_106 : Ks RX10 106 yX10_gatherFromBelow cX10_gatherFromBelow 4 none 1 := ⟨gw_at 873 (by decide +kernel) rfl, gw_at 14 (by decide +kernel) rfl, gw_at 870 (by decide +kernel) rfl, by decide +kernel, by decide +kernel, by decide +kernel⟩
theorem kk_X10_35 : Ks RX10 35 yJx4a65c_size_8abf5 cJx4a65c_size_8abf5 1 (some .int) 0 := ⟨gw_at 615 (by decide +kernel) rfl, gw_at 5 (by decide +kernel) rfl, gw_at 855 (by decide +kernel) rfl, by decide +kernel, by decide +kernel, by decide +kernel⟩
theorem kk_X10_102 : Ks RX10 102 yX10_lineUpBelow cX10_lineUpBelow 4 none 1 := ⟨gw_at 861 (by decide +kernel) rfl, gw_at 14 (by decide +kernel) rfl, gw_at 858 (by decide +kernel) rfl, by decide +kernel, by decide +kernel, by decide +kernel⟩
theorem kk_X10_86 : Ks RX10 86 yJx4a65c_clear_da8c8 cJx4a65c_clear_da8c8 4 none 0 := ⟨gw_at 852 (by decide +kernel) rfl, gw_at 5 (by decide +kernel) rfl, gw_at 849 (by decide +kernel) rfl, by decide +kernel, by decide +kernel, by decide +kernel⟩
theorem kk_X10_98 : Ks RX10 98 yJx4a65c_add_9ea2d cJx4a65c_add_9ea2d 2 (some .boolean) 1 := ⟨gw_at 150 (by decide +kernel) rfl, gw_at 5 (by decide +kernel) rfl, gw_at 854 (by decide +kernel) rfl, by decide +kernel, by decide +kernel, by decide +kernel⟩
theorem kk_X10_32 : Ks RX10 32 yX10_renew cX10_renew 4 none 0 := ⟨gw_at 848 (by decide +kernel) rfl, gw_at 14 (by decide +kernel) rfl, gw_at 845 (by decide +kernel) rfl, by decide +kernel, by decide +kernel, by decide +kernel⟩
theorem kk_X10_49 : Ks RX10 49 yX3_placeIn cX3_placeIn 3 (some .int) 1 := ⟨gw_at 781 (by decide +kernel) rfl, gw_at 6 (by decide +kernel) rfl, gw_at 1167 (by decide +kernel) rfl, by decide +kernel, by decide +kernel, by decide +kernel⟩
theorem kk_X10_80 : Ks RX10 80 yX1_of cX1_of 3 (some .int) 2 := ⟨gw_at 728 (by decide +kernel) rfl, gw_at 12 (by decide +kernel) rfl, gw_at 878 (by decide +kernel) rfl, by decide +kernel, by decide +kernel, by decide +kernel⟩
theorem kk_X10_60 : Ks RX10 60 yX10_greatestBelow cX10_greatestBelow 9 (some .int) 2 := ⟨gw_at 877 (by decide +kernel) rfl, gw_at 14 (by decide +kernel) rfl, gw_at 874 (by decide +kernel) rfl, by decide +kernel, by decide +kernel, by decide +kernel⟩
theorem kk_X11_11 : Ks RX11 11 yX7_init cX7_init 1 none 0 := ⟨gw_at 40 (by decide +kernel) rfl, gw_at 2 (by decide +kernel) rfl, gw_at 38 (by decide +kernel) rfl, by decide +kernel, by decide +kernel, by decide +kernel⟩
theorem kk_X11_25 : Ks RX11 25 yX1_init cX1_init 2 none 1 := ⟨gw_at 294 (by decide +kernel) rfl, gw_at 12 (by decide +kernel) rfl, gw_at 292 (by decide +kernel) rfl, by decide +kernel, by decide +kernel, by decide +kernel⟩
theorem kk_X11_34 : Ks RX11 34 yX9_init cX9_init 3 none 2 := ⟨gw_at 322 (by decide +kernel) rfl, gw_at 13 (by decide +kernel) rfl, gw_at 320 (by decide +kernel) rfl, by decide +kernel, by decide +kernel, by decide +kernel⟩
theorem kk_X11_43 : Ks RX11 43 yX10_init cX10_init 3 none 2 := ⟨gw_at 360 (by decide +kernel) rfl, gw_at 14 (by decide +kernel) rfl, gw_at 358 (by decide +kernel) rfl, by decide +kernel, by decide +kernel, by decide +kernel⟩
theorem kk_X11_50 : Ks RX11 50 yX6_init cX6_init 4 none 3 := ⟨gw_at 378 (by decide +kernel) rfl, gw_at 15 (by decide +kernel) rfl, gw_at 376 (by decide +kernel) rfl, by decide +kernel, by decide +kernel, by decide +kernel⟩
theorem kk_X11_59 : Ks RX11 59 yX8_init cX8_init 3 none 2 := ⟨gw_at 445 (by decide +kernel) rfl, gw_at 16 (by decide +kernel) rfl, gw_at 443 (by decide +kernel) rfl, by decide +kernel, by decide +kernel, by decide +kernel⟩
theorem kk_X11_139 : Ks RX11 139 yX2_lettersIn cX2_lettersIn 5 (some .int) 1 := ⟨gw_at 602 (by decide +kernel) rfl, gw_at 11 (by decide +kernel) rfl, gw_at 599 (by decide +kernel) rfl, by decide +kernel, by decide +kernel, by decide +kernel⟩
theorem kk_X11_143 : Ks RX11 143 yX7_numberOf cX7_numberOf 3 (some .int) 1 := ⟨gw_at 607 (by decide +kernel) rfl, gw_at 2 (by decide +kernel) rfl, gw_at 604 (by decide +kernel) rfl, by decide +kernel, by decide +kernel, by decide +kernel⟩
theorem kk_X11_354 : Ks RX11 354 yX7_setWord cX7_setWord 3 none 2 := ⟨gw_at 680 (by decide +kernel) rfl, gw_at 2 (by decide +kernel) rfl, gw_at 677 (by decide +kernel) rfl, by decide +kernel, by decide +kernel, by decide +kernel⟩
theorem kk_X11_114 : Ks RX11 114 yX1_follow cX1_follow 3 none 1 := ⟨gw_at 684 (by decide +kernel) rfl, gw_at 12 (by decide +kernel) rfl, gw_at 681 (by decide +kernel) rfl, by decide +kernel, by decide +kernel, by decide +kernel⟩
theorem kk_X11_358 : Ks RX11 358 yX9_insert cX9_insert 8 none 1 := ⟨gw_at 719 (by decide +kernel) rfl, gw_at 13 (by decide +kernel) rfl, gw_at 716 (by decide +kernel) rfl, by decide +kernel, by decide +kernel, by decide +kernel⟩
theorem kk_X11_85 : Ks RX11 85 yX11_canAdd cX11_canAdd 2 (some .boolean) 1 := ⟨gw_at 598 (by decide +kernel) rfl, gw_at 1 (by decide +kernel) rfl, gw_at 595 (by decide +kernel) rfl, by decide +kernel, by decide +kernel, by decide +kernel⟩
theorem kk_X11_89 : Ks RX11 89 yX4_keep cX4_keep 3 none 1 := ⟨gw_at 611 (by decide +kernel) rfl, gw_at 17 (by decide +kernel) rfl, gw_at 608 (by decide +kernel) rfl, by decide +kernel, by decide +kernel, by decide +kernel⟩
theorem kk_X11_93 : Ks RX11 93 yX7_freeNumber cX7_freeNumber 1 (some .int) 0 := ⟨gw_at 671 (by decide +kernel) rfl, gw_at 2 (by decide +kernel) rfl, gw_at 668 (by decide +kernel) rfl, by decide +kernel, by decide +kernel, by decide +kernel⟩
theorem kk_X11_97 : Ks RX11 97 yX11_bringIn cX11_bringIn 3 (some .int) 2 := ⟨gw_at 676 (by decide +kernel) rfl, gw_at 1 (by decide +kernel) rfl, gw_at 673 (by decide +kernel) rfl, by decide +kernel, by decide +kernel, by decide +kernel⟩
theorem kk_X11_361 : Ks RX11 361 yX7_forget cX7_forget 4 none 1 := ⟨gw_at 769 (by decide +kernel) rfl, gw_at 2 (by decide +kernel) rfl, gw_at 766 (by decide +kernel) rfl, by decide +kernel, by decide +kernel, by decide +kernel⟩
theorem kk_X11_364 : Ks RX11 364 yX9_hasCentre cX9_hasCentre 4 (some .boolean) 1 := ⟨gw_at 777 (by decide +kernel) rfl, gw_at 13 (by decide +kernel) rfl, gw_at 774 (by decide +kernel) rfl, by decide +kernel, by decide +kernel, by decide +kernel⟩
theorem kk_X11_367 : Ks RX11 367 yX9_takeFromLeaf cX9_takeFromLeaf 5 none 1 := ⟨gw_at 785 (by decide +kernel) rfl, gw_at 13 (by decide +kernel) rfl, gw_at 782 (by decide +kernel) rfl, by decide +kernel, by decide +kernel, by decide +kernel⟩
theorem kk_X11_101 : Ks RX11 101 yX7_has cX7_has 2 (some .boolean) 1 := ⟨gw_at 761 (by decide +kernel) rfl, gw_at 2 (by decide +kernel) rfl, gw_at 758 (by decide +kernel) rfl, by decide +kernel, by decide +kernel, by decide +kernel⟩
theorem kk_X11_104 : Ks RX11 104 yX11_takeOut cX11_takeOut 2 (some .boolean) 1 := ⟨gw_at 765 (by decide +kernel) rfl, gw_at 1 (by decide +kernel) rfl, gw_at 762 (by decide +kernel) rfl, by decide +kernel, by decide +kernel, by decide +kernel⟩
theorem kk_X11_107 : Ks RX11 107 yX9_buildAnew cX9_buildAnew 2 none 0 := ⟨gw_at 793 (by decide +kernel) rfl, gw_at 13 (by decide +kernel) rfl, gw_at 790 (by decide +kernel) rfl, by decide +kernel, by decide +kernel, by decide +kernel⟩
theorem kk_X11_117 : Ks RX11 117 yX11_isCap cX11_isCap 1 (some .boolean) 1 := ⟨gw_at 809 (by decide +kernel) rfl, gw_at 1 (by decide +kernel) rfl, gw_at 807 (by decide +kernel) rfl, by decide +kernel, by decide +kernel, by decide +kernel⟩
theorem kk_X11_132 : Ks RX11 132 yX7_noteTold cX7_noteTold 5 none 4 := ⟨gw_at 824 (by decide +kernel) rfl, gw_at 2 (by decide +kernel) rfl, gw_at 821 (by decide +kernel) rfl, by decide +kernel, by decide +kernel, by decide +kernel⟩
theorem kk_X11_123 : Ks RX11 123 yX11_isFar cX11_isFar 1 (some .boolean) 1 := ⟨gw_at 816 (by decide +kernel) rfl, gw_at 1 (by decide +kernel) rfl, gw_at 814 (by decide +kernel) rfl, by decide +kernel, by decide +kernel, by decide +kernel⟩
theorem kk_X11_126 : Ks RX11 126 yX7_toldAt cX7_toldAt 4 (some .int) 2 := ⟨gw_at 820 (by decide +kernel) rfl, gw_at 2 (by decide +kernel) rfl, gw_at 817 (by decide +kernel) rfl, by decide +kernel, by decide +kernel, by decide +kernel⟩
theorem kk_X11_146 : Ks RX11 146 yX10_tighten cX10_tighten 6 (some .int) 0 := ⟨gw_at 844 (by decide +kernel) rfl, gw_at 14 (by decide +kernel) rfl, gw_at 841 (by decide +kernel) rfl, by decide +kernel, by decide +kernel, by decide +kernel⟩
theorem kk_X11_149 : Ks RX11 149 yX0_hasRoom cX0_hasRoom 1 (some .boolean) 0 := ⟨gw_at 886 (by decide +kernel) rfl, gw_at 18 (by decide +kernel) rfl, gw_at 883 (by decide +kernel) rfl, by decide +kernel, by decide +kernel, by decide +kernel⟩
theorem kk_X11_153 : Ks RX11 153 yX0_addFour cX0_addFour 3 none 1 := ⟨gw_at 890 (by decide +kernel) rfl, gw_at 18 (by decide +kernel) rfl, gw_at 887 (by decide +kernel) rfl, by decide +kernel, by decide +kernel, by decide +kernel⟩
theorem kk_X11_380 : Ks RX11 380 yX5_addOk cX5_addOk 2 none 1 := ⟨gw_at 1011 (by decide +kernel) rfl, gw_at 19 (by decide +kernel) rfl, gw_at 1068 (by decide +kernel) rfl, by decide +kernel, by decide +kernel, by decide +kernel⟩
theorem kk_X11_376 : Ks RX11 376 yX5_addNumbers cX5_addNumbers 4 none 2 := ⟨gw_at 1067 (by decide +kernel) rfl, gw_at 19 (by decide +kernel) rfl, gw_at 1064 (by decide +kernel) rfl, by decide +kernel, by decide +kernel, by decide +kernel⟩
theorem kk_X11_370 : Ks RX11 370 yX5_addNumberOrNo cX5_addNumberOrNo 2 none 1 := ⟨gw_at 1007 (by decide +kernel) rfl, gw_at 19 (by decide +kernel) rfl, gw_at 1004 (by decide +kernel) rfl, by decide +kernel, by decide +kernel, by decide +kernel⟩
theorem kk_X11_276 : Ks RX11 276 yX11_isHowMany cX11_isHowMany 1 (some .boolean) 1 := ⟨gw_at 1019 (by decide +kernel) rfl, gw_at 1 (by decide +kernel) rfl, gw_at 1017 (by decide +kernel) rfl, by decide +kernel, by decide +kernel, by decide +kernel⟩
theorem kk_X11_269 : Ks RX11 269 yX6_run cX6_run 7 (some .int) 4 := ⟨gw_at 1023 (by decide +kernel) rfl, gw_at 15 (by decide +kernel) rfl, gw_at 1020 (by decide +kernel) rfl, by decide +kernel, by decide +kernel, by decide +kernel⟩
theorem kk_X11_217 : Ks RX11 217 yX2_between cX2_between 6 (some .int) 3 := ⟨gw_at 696 (by decide +kernel) rfl, gw_at 11 (by decide +kernel) rfl, gw_at 1069 (by decide +kernel) rfl, by decide +kernel, by decide +kernel, by decide +kernel⟩
theorem kk_X11_384 : Ks RX11 384 yX5_addNumber cX5_addNumber 2 none 1 := ⟨gw_at 1016 (by decide +kernel) rfl, gw_at 19 (by decide +kernel) rfl, gw_at 1070 (by decide +kernel) rfl, by decide +kernel, by decide +kernel, by decide +kernel⟩
theorem kk_X11_190 : Ks RX11 190 yX4_countSteps cX4_countSteps 1 (some .int) 0 := ⟨gw_at 1087 (by decide +kernel) rfl, gw_at 17 (by decide +kernel) rfl, gw_at 1084 (by decide +kernel) rfl, by decide +kernel, by decide +kernel, by decide +kernel⟩
theorem kk_X11_193 : Ks RX11 193 yX4_takeBack cX4_takeBack 3 none 1 := ⟨gw_at 1091 (by decide +kernel) rfl, gw_at 17 (by decide +kernel) rfl, gw_at 1088 (by decide +kernel) rfl, by decide +kernel, by decide +kernel, by decide +kernel⟩
theorem kk_X11_199 : Ks RX11 199 yX9_countLeaves cX9_countLeaves 3 (some .int) 0 := ⟨gw_at 1099 (by decide +kernel) rfl, gw_at 13 (by decide +kernel) rfl, gw_at 1096 (by decide +kernel) rfl, by decide +kernel, by decide +kernel, by decide +kernel⟩
theorem kk_X11_202 : Ks RX11 202 yX9_countLevels cX9_countLevels 4 (some .int) 0 := ⟨gw_at 1103 (by decide +kernel) rfl, gw_at 13 (by decide +kernel) rfl, gw_at 1100 (by decide +kernel) rfl, by decide +kernel, by decide +kernel, by decide +kernel⟩
theorem kk_X11_205 : Ks RX11 205 yX9_countEntries cX9_countEntries 3 (some .int) 0 := ⟨gw_at 1107 (by decide +kernel) rfl, gw_at 13 (by decide +kernel) rfl, gw_at 1104 (by decide +kernel) rfl, by decide +kernel, by decide +kernel, by decide +kernel⟩
theorem kk_X11_208 : Ks RX11 208 yX9_countOverlaps cX9_countOverlaps 4 (some .int) 0 := ⟨gw_at 1111 (by decide +kernel) rfl, gw_at 13 (by decide +kernel) rfl, gw_at 1108 (by decide +kernel) rfl, by decide +kernel, by decide +kernel, by decide +kernel⟩
theorem kk_X11_211 : Ks RX11 211 yX9_sumReaches cX9_sumReaches 5 (some .int) 0 := ⟨gw_at 1119 (by decide +kernel) rfl, gw_at 13 (by decide +kernel) rfl, gw_at 1116 (by decide +kernel) rfl, by decide +kernel, by decide +kernel, by decide +kernel⟩
theorem kk_X11_221 : Ks RX11 221 yX1_of cX1_of 3 (some .int) 2 := ⟨gw_at 728 (by decide +kernel) rfl, gw_at 12 (by decide +kernel) rfl, gw_at 1140 (by decide +kernel) rfl, by decide +kernel, by decide +kernel, by decide +kernel⟩
theorem kk_X11_224 : Ks RX11 224 yX10_pageAt cX10_pageAt 2 (some (.object "LikePages$Page")) 1 := ⟨gw_at 1148 (by decide +kernel) rfl, gw_at 14 (by decide +kernel) rfl, gw_at 1145 (by decide +kernel) rfl, by decide +kernel, by decide +kernel, by decide +kernel⟩
theorem kk_X11_253 : Ks RX11 253 yX1_wayOf cX1_wayOf 3 (some .int) 2 := ⟨gw_at 1156 (by decide +kernel) rfl, gw_at 12 (by decide +kernel) rfl, gw_at 1153 (by decide +kernel) rfl, by decide +kernel, by decide +kernel, by decide +kernel⟩
theorem kk_X11_260 : Ks RX11 260 yX7_at cX7_at 2 (some (.object "LikePages$Page")) 1 := ⟨gw_at 657 (by decide +kernel) rfl, gw_at 2 (by decide +kernel) rfl, gw_at 1158 (by decide +kernel) rfl, by decide +kernel, by decide +kernel, by decide +kernel⟩
theorem kk_X11_266 : Ks RX11 266 yX10_placeOfLeaf cX10_placeOfLeaf 4 (some .int) 1 := ⟨gw_at 1166 (by decide +kernel) rfl, gw_at 14 (by decide +kernel) rfl, gw_at 1163 (by decide +kernel) rfl, by decide +kernel, by decide +kernel, by decide +kernel⟩
theorem kk_X11_273 : Ks RX11 273 yX6_answer cX6_answer 2 (some .int) 1 := ⟨gw_at 1175 (by decide +kernel) rfl, gw_at 15 (by decide +kernel) rfl, gw_at 1172 (by decide +kernel) rfl, by decide +kernel, by decide +kernel, by decide +kernel⟩
theorem kk_X11_292 : Ks RX11 292 yX8_findBreak cX8_findBreak 3 (some .boolean) 1 := ⟨gw_at 1207 (by decide +kernel) rfl, gw_at 16 (by decide +kernel) rfl, gw_at 1204 (by decide +kernel) rfl, by decide +kernel, by decide +kernel, by decide +kernel⟩
theorem kk_X11_304 : Ks RX11 304 yX10_reachesCover cX10_reachesCover 4 (some .boolean) 0 := ⟨gw_at 1229 (by decide +kernel) rfl, gw_at 14 (by decide +kernel) rfl, gw_at 1226 (by decide +kernel) rfl, by decide +kernel, by decide +kernel, by decide +kernel⟩
theorem kk_X11_307 : Ks RX11 307 yX8_extremePair cX8_extremePair 7 (some .int) 1 := ⟨gw_at 1237 (by decide +kernel) rfl, gw_at 16 (by decide +kernel) rfl, gw_at 1234 (by decide +kernel) rfl, by decide +kernel, by decide +kernel, by decide +kernel⟩
theorem kk_X11_314 : Ks RX11 314 yX8_coupleAt cX8_coupleAt 6 (some .int) 2 := ⟨gw_at 1253 (by decide +kernel) rfl, gw_at 16 (by decide +kernel) rfl, gw_at 1250 (by decide +kernel) rfl, by decide +kernel, by decide +kernel, by decide +kernel⟩
theorem kk_X11_311 : Ks RX11 311 yX8_countPairs cX8_countPairs 6 (some .int) 2 := ⟨gw_at 1249 (by decide +kernel) rfl, gw_at 16 (by decide +kernel) rfl, gw_at 1246 (by decide +kernel) rfl, by decide +kernel, by decide +kernel, by decide +kernel⟩
theorem kk_X11_317 : Ks RX11 317 yX8_findLonely cX8_findLonely 5 (some .int) 0 := ⟨gw_at 1265 (by decide +kernel) rfl, gw_at 16 (by decide +kernel) rfl, gw_at 1262 (by decide +kernel) rfl, by decide +kernel, by decide +kernel, by decide +kernel⟩
theorem kk_X11_320 : Ks RX11 320 yX8_pivotAt cX8_pivotAt 4 (some .int) 1 := ⟨gw_at 1277 (by decide +kernel) rfl, gw_at 16 (by decide +kernel) rfl, gw_at 1274 (by decide +kernel) rfl, by decide +kernel, by decide +kernel, by decide +kernel⟩
theorem kk_X11_323 : Ks RX11 323 yX2_letterAt cX2_letterAt 4 (some .int) 2 := ⟨gw_at 1298 (by decide +kernel) rfl, gw_at 11 (by decide +kernel) rfl, gw_at 1295 (by decide +kernel) rfl, by decide +kernel, by decide +kernel, by decide +kernel⟩
theorem kk_X11_326 : Ks RX11 326 yX8_findMiddle cX8_findMiddle 5 (some .int) 0 := ⟨gw_at 1282 (by decide +kernel) rfl, gw_at 16 (by decide +kernel) rfl, gw_at 1303 (by decide +kernel) rfl, by decide +kernel, by decide +kernel, by decide +kernel⟩
theorem kk_X11_329 : Ks RX11 329 yX8_join cX8_join 5 (some .int) 1 := ⟨gw_at 1311 (by decide +kernel) rfl, gw_at 16 (by decide +kernel) rfl, gw_at 1308 (by decide +kernel) rfl, by decide +kernel, by decide +kernel, by decide +kernel⟩
theorem kk_X11_332 : Ks RX11 332 yX8_sizeOfGroup cX8_sizeOfGroup 4 (some .int) 1 := ⟨gw_at 1319 (by decide +kernel) rfl, gw_at 16 (by decide +kernel) rfl, gw_at 1316 (by decide +kernel) rfl, by decide +kernel, by decide +kernel, by decide +kernel⟩
theorem kk_X11_335 : Ks RX11 335 yX8_linkFrom cX8_linkFrom 6 (some .int) 1 := ⟨gw_at 1327 (by decide +kernel) rfl, gw_at 16 (by decide +kernel) rfl, gw_at 1324 (by decide +kernel) rfl, by decide +kernel, by decide +kernel, by decide +kernel⟩
theorem kk_X11_348 : Ks RX11 348 yX4_setImage cX4_setImage 3 none 1 := ⟨gw_at 1355 (by decide +kernel) rfl, gw_at 17 (by decide +kernel) rfl, gw_at 1352 (by decide +kernel) rfl, by decide +kernel, by decide +kernel, by decide +kernel⟩
theorem kk_X11_351 : Ks RX11 351 yX4_goBack cX4_goBack 3 none 1 := ⟨gw_at 1364 (by decide +kernel) rfl, gw_at 17 (by decide +kernel) rfl, gw_at 1361 (by decide +kernel) rfl, by decide +kernel, by decide +kernel, by decide +kernel⟩
theorem kk_X0_65 : Ks RX0 65 yX0_reads cX0_reads 3 (some .boolean) 1 := ⟨gw_at 922 (by decide +kernel) rfl, gw_at 18 (by decide +kernel) rfl, gw_at 919 (by decide +kernel) rfl, by decide +kernel, by decide +kernel, by decide +kernel⟩
theorem kk_X0_99 : Ks RX0 99 yX0_measureNamed cX0_measureNamed 1 (some .int) 0 := ⟨gw_at 991 (by decide +kernel) rfl, gw_at 18 (by decide +kernel) rfl, gw_at 988 (by decide +kernel) rfl, by decide +kernel, by decide +kernel, by decide +kernel⟩
theorem kk_X0_54 : Ks RX0 54 yX0_readWord cX0_readWord 4 (some .int) 0 := ⟨gw_at 979 (by decide +kernel) rfl, gw_at 18 (by decide +kernel) rfl, gw_at 976 (by decide +kernel) rfl, by decide +kernel, by decide +kernel, by decide +kernel⟩
theorem kk_X0_57 : Ks RX0 57 yX0_readNumber cX0_readNumber 4 (some .int) 0 := ⟨gw_at 983 (by decide +kernel) rfl, gw_at 18 (by decide +kernel) rfl, gw_at 980 (by decide +kernel) rfl, by decide +kernel, by decide +kernel, by decide +kernel⟩
theorem kk_X0_60 : Ks RX0 60 yX0_readMeasure cX0_readMeasure 2 (some .int) 0 := ⟨gw_at 987 (by decide +kernel) rfl, gw_at 18 (by decide +kernel) rfl, gw_at 984 (by decide +kernel) rfl, by decide +kernel, by decide +kernel, by decide +kernel⟩
theorem kk_X0_50 : Ks RX0 50 yX0_commandNamed cX0_commandNamed 1 (some .int) 0 := ⟨gw_at 917 (by decide +kernel) rfl, gw_at 18 (by decide +kernel) rfl, gw_at 914 (by decide +kernel) rfl, by decide +kernel, by decide +kernel, by decide +kernel⟩
theorem kk_X0_37 : Ks RX0 37 yX0_readCommand cX0_readCommand 2 none 1 := ⟨gw_at 906 (by decide +kernel) rfl, gw_at 18 (by decide +kernel) rfl, gw_at 903 (by decide +kernel) rfl, by decide +kernel, by decide +kernel, by decide +kernel⟩
theorem kk_X11_183 : Ks RX11 183 yX11_act cX11_act 5 none 3 := ⟨gw_at 1003 (by decide +kernel) rfl, gw_at 1 (by decide +kernel) rfl, gw_at 1000 (by decide +kernel) rfl, by decide +kernel, by decide +kernel, by decide +kernel⟩
theorem kk_X11_170 : Ks RX11 170 yX5_addByte cX5_addByte 2 none 1 := ⟨gw_at 999 (by decide +kernel) rfl, gw_at 19 (by decide +kernel) rfl, gw_at 996 (by decide +kernel) rfl, by decide +kernel, by decide +kernel, by decide +kernel⟩
theorem kk_X11_163 : Ks RX11 163 yX0_read cX0_read 2 none 0 := ⟨gw_at 902 (by decide +kernel) rfl, gw_at 18 (by decide +kernel) rfl, gw_at 899 (by decide +kernel) rfl, by decide +kernel, by decide +kernel, by decide +kernel⟩
theorem kk_X11_341 : Ks RX11 341 yX8_sumOfPairs cX8_sumOfPairs 4 (some .int) 0 := ⟨gw_at 1343 (by decide +kernel) rfl, gw_at 16 (by decide +kernel) rfl, gw_at 1340 (by decide +kernel) rfl, by decide +kernel, by decide +kernel, by decide +kernel⟩
theorem kk_X11_344 : Ks RX11 344 yX11_bitsOf cX11_bitsOf 4 (some .int) 1 := ⟨gw_at 1346 (by decide +kernel) rfl, gw_at 1 (by decide +kernel) rfl, gw_at 1344 (by decide +kernel) rfl, by decide +kernel, by decide +kernel, by decide +kernel⟩
theorem km_J15_checkIndex_7cf53 : Cond.static yJ15_checkIndex_7cf53 ∈ gw := gw_at 621 (by decide +kernel) rfl
theorem km_J3_checkIndex_8e157 : Cond.static yJ3_checkIndex_8e157 ∈ gw := gw_at 624 (by decide +kernel) rfl
theorem km_J7_copyOf_1904c : Cond.static yJ7_copyOf_1904c ∈ gw := gw_at 174 (by decide +kernel) rfl
theorem km_J7_copyOf_6403c : Cond.static yJ7_copyOf_6403c ∈ gw := gw_at 195 (by decide +kernel) rfl
theorem km_J7_fill_53178 : Cond.static yJ7_fill_53178 ∈ gw := gw_at 297 (by decide +kernel) rfl
theorem km_J8_newLength_cabcc : Cond.static yJ8_newLength_cabcc ∈ gw := gw_at 164 (by decide +kernel) rfl
theorem km_Jx4a65c_add_72be8 : Cond.instanceMethod yJx4a65c_add_72be8 ∈ gw ∧ Cond.selects yJx4a65c_add_72be8.cls yJx4a65c_add_72be8 yJx4a65c_add_72be8 ∈ gw := ⟨gw_at 153 (by decide +kernel) rfl, gw_in (List.mem_append_left _ (List.mem_of_getElem? (i := 0) (by decide +kernel))) rfl⟩
theorem km_Jx4a65c_add_7a177 : Cond.instanceMethod yJx4a65c_add_7a177 ∈ gw ∧ Cond.selects yJx4a65c_add_7a177.cls yJx4a65c_add_7a177 yJx4a65c_add_7a177 ∈ gw := ⟨gw_at 863 (by decide +kernel) rfl, gw_at 864 (by decide +kernel) rfl⟩
theorem km_Jx4a65c_add_9ea2d : Cond.instanceMethod yJx4a65c_add_9ea2d ∈ gw ∧ Cond.selects yJx4a65c_add_9ea2d.cls yJx4a65c_add_9ea2d yJx4a65c_add_9ea2d ∈ gw := ⟨gw_at 148 (by decide +kernel) rfl, gw_at 149 (by decide +kernel) rfl⟩
theorem km_Jx4a65c_clear_da8c8 : Cond.instanceMethod yJx4a65c_clear_da8c8 ∈ gw ∧ Cond.selects yJx4a65c_clear_da8c8.cls yJx4a65c_clear_da8c8 yJx4a65c_clear_da8c8 ∈ gw := ⟨gw_at 850 (by decide +kernel) rfl, gw_at 851 (by decide +kernel) rfl⟩
theorem km_Jx4a65c_elementData_915e3 : Cond.instanceMethod yJx4a65c_elementData_915e3 ∈ gw ∧ Cond.selects yJx4a65c_elementData_915e3.cls yJx4a65c_elementData_915e3 yJx4a65c_elementData_915e3 ∈ gw := ⟨gw_at 627 (by decide +kernel) rfl, gw_at 628 (by decide +kernel) rfl⟩
theorem km_Jx4a65c_fastRemove_b59b0 : Cond.instanceMethod yJx4a65c_fastRemove_b59b0 ∈ gw ∧ Cond.selects yJx4a65c_fastRemove_b59b0.cls yJx4a65c_fastRemove_b59b0 yJx4a65c_fastRemove_b59b0 ∈ gw := ⟨gw_at 636 (by decide +kernel) rfl, gw_in (List.mem_append_left _ (List.mem_of_getElem? (i := 4) (by decide +kernel))) rfl⟩
theorem km_Jx4a65c_get_915e3 : Cond.instanceMethod yJx4a65c_get_915e3 ∈ gw ∧ Cond.selects yJx4a65c_get_915e3.cls yJx4a65c_get_915e3 yJx4a65c_get_915e3 ∈ gw := ⟨gw_at 617 (by decide +kernel) rfl, gw_at 618 (by decide +kernel) rfl⟩
theorem km_Jx4a65c_grow_92f84 : Cond.instanceMethod yJx4a65c_grow_92f84 ∈ gw ∧ Cond.selects yJx4a65c_grow_92f84.cls yJx4a65c_grow_92f84 yJx4a65c_grow_92f84 ∈ gw := ⟨gw_at 161 (by decide +kernel) rfl, gw_in (List.mem_append_left _ (List.mem_of_getElem? (i := 2) (by decide +kernel))) rfl⟩
theorem km_Jx4a65c_grow_d5877 : Cond.instanceMethod yJx4a65c_grow_d5877 ∈ gw ∧ Cond.selects yJx4a65c_grow_d5877.cls yJx4a65c_grow_d5877 yJx4a65c_grow_d5877 ∈ gw := ⟨gw_at 157 (by decide +kernel) rfl, gw_in (List.mem_append_left _ (List.mem_of_getElem? (i := 1) (by decide +kernel))) rfl⟩
theorem km_Jx4a65c_init_da8c8 : Cond.instanceMethod yJx4a65c_init_da8c8 ∈ gw := gw_at 45 (by decide +kernel) rfl
theorem km_Jx4a65c_rangeCheckForAdd_d00df : Cond.instanceMethod yJx4a65c_rangeCheckForAdd_d00df ∈ gw ∧ Cond.selects yJx4a65c_rangeCheckForAdd_d00df.cls yJx4a65c_rangeCheckForAdd_d00df yJx4a65c_rangeCheckForAdd_d00df ∈ gw := ⟨gw_at 868 (by decide +kernel) rfl, gw_in (List.mem_append_left _ (List.mem_of_getElem? (i := 22) (by decide +kernel))) rfl⟩
theorem km_Jx4a65c_remove_915e3 : Cond.instanceMethod yJx4a65c_remove_915e3 ∈ gw ∧ Cond.selects yJx4a65c_remove_915e3.cls yJx4a65c_remove_915e3 yJx4a65c_remove_915e3 ∈ gw := ⟨gw_at 631 (by decide +kernel) rfl, gw_at 632 (by decide +kernel) rfl⟩
theorem km_Jx4a65c_size_8abf5 : Cond.instanceMethod yJx4a65c_size_8abf5 ∈ gw ∧ Cond.selects yJx4a65c_size_8abf5.cls yJx4a65c_size_8abf5 yJx4a65c_size_8abf5 ∈ gw := ⟨gw_at 613 (by decide +kernel) rfl, gw_at 614 (by decide +kernel) rfl⟩
theorem km_Jxa1e45_init_da8c8 : Cond.instanceMethod yJxa1e45_init_da8c8 ∈ gw := gw_at 51 (by decide +kernel) rfl
theorem km_Jxc12de_init_da8c8 : Cond.instanceMethod yJxc12de_init_da8c8 ∈ gw := gw_at 48 (by decide +kernel) rfl
theorem km_X0_addFour : Cond.instanceMethod yX0_addFour ∈ gw ∧ Cond.selects yX0_addFour.cls yX0_addFour yX0_addFour ∈ gw := ⟨gw_at 888 (by decide +kernel) rfl, gw_at 889 (by decide +kernel) rfl⟩
theorem km_X0_commandNamed : Cond.instanceMethod yX0_commandNamed ∈ gw ∧ Cond.selects yX0_commandNamed.cls yX0_commandNamed yX0_commandNamed ∈ gw := ⟨gw_at 916 (by decide +kernel) rfl, gw_in (List.mem_append_left _ (List.mem_of_getElem? (i := 27) (by decide +kernel))) rfl⟩
theorem km_X0_goOn : Cond.instanceMethod yX0_goOn ∈ gw ∧ Cond.selects yX0_goOn.cls yX0_goOn yX0_goOn ∈ gw := ⟨gw_at 909 (by decide +kernel) rfl, gw_in (List.mem_append_left _ (List.mem_of_getElem? (i := 26) (by decide +kernel))) rfl⟩
theorem km_X0_hasRoom : Cond.instanceMethod yX0_hasRoom ∈ gw ∧ Cond.selects yX0_hasRoom.cls yX0_hasRoom yX0_hasRoom ∈ gw := ⟨gw_at 884 (by decide +kernel) rfl, gw_at 885 (by decide +kernel) rfl⟩
theorem km_X0_init : Cond.instanceMethod yX0_init ∈ gw := gw_at 505 (by decide +kernel) rfl
theorem km_X0_measureNamed : Cond.instanceMethod yX0_measureNamed ∈ gw ∧ Cond.selects yX0_measureNamed.cls yX0_measureNamed yX0_measureNamed ∈ gw := ⟨gw_at 990 (by decide +kernel) rfl, gw_in (List.mem_append_left _ (List.mem_of_getElem? (i := 32) (by decide +kernel))) rfl⟩
theorem km_X0_read : Cond.instanceMethod yX0_read ∈ gw ∧ Cond.selects yX0_read.cls yX0_read yX0_read ∈ gw := ⟨gw_at 900 (by decide +kernel) rfl, gw_at 901 (by decide +kernel) rfl⟩
theorem km_X0_readCommand : Cond.instanceMethod yX0_readCommand ∈ gw ∧ Cond.selects yX0_readCommand.cls yX0_readCommand yX0_readCommand ∈ gw := ⟨gw_at 905 (by decide +kernel) rfl, gw_in (List.mem_append_left _ (List.mem_of_getElem? (i := 25) (by decide +kernel))) rfl⟩
theorem km_X0_readMeasure : Cond.instanceMethod yX0_readMeasure ∈ gw ∧ Cond.selects yX0_readMeasure.cls yX0_readMeasure yX0_readMeasure ∈ gw := ⟨gw_at 986 (by decide +kernel) rfl, gw_in (List.mem_append_left _ (List.mem_of_getElem? (i := 31) (by decide +kernel))) rfl⟩
theorem km_X0_readNumber : Cond.instanceMethod yX0_readNumber ∈ gw ∧ Cond.selects yX0_readNumber.cls yX0_readNumber yX0_readNumber ∈ gw := ⟨gw_at 982 (by decide +kernel) rfl, gw_in (List.mem_append_left _ (List.mem_of_getElem? (i := 30) (by decide +kernel))) rfl⟩
theorem km_X0_readWord : Cond.instanceMethod yX0_readWord ∈ gw ∧ Cond.selects yX0_readWord.cls yX0_readWord yX0_readWord ∈ gw := ⟨gw_at 978 (by decide +kernel) rfl, gw_in (List.mem_append_left _ (List.mem_of_getElem? (i := 29) (by decide +kernel))) rfl⟩
theorem km_X0_reads : Cond.instanceMethod yX0_reads ∈ gw ∧ Cond.selects yX0_reads.cls yX0_reads yX0_reads ∈ gw := ⟨gw_at 921 (by decide +kernel) rfl, gw_in (List.mem_append_left _ (List.mem_of_getElem? (i := 28) (by decide +kernel))) rfl⟩
theorem km_X0_sortOf : Cond.static yX0_sortOf ∈ gw := gw_at 912 (by decide +kernel) rfl
theorem km_X10_gatherFromBelow : Cond.instanceMethod yX10_gatherFromBelow ∈ gw ∧ Cond.selects yX10_gatherFromBelow.cls yX10_gatherFromBelow yX10_gatherFromBelow ∈ gw := ⟨gw_at 872 (by decide +kernel) rfl, gw_in (List.mem_append_left _ (List.mem_of_getElem? (i := 23) (by decide +kernel))) rfl⟩
theorem km_X10_greatestBelow : Cond.instanceMethod yX10_greatestBelow ∈ gw ∧ Cond.selects yX10_greatestBelow.cls yX10_greatestBelow yX10_greatestBelow ∈ gw := ⟨gw_at 876 (by decide +kernel) rfl, gw_in (List.mem_append_left _ (List.mem_of_getElem? (i := 24) (by decide +kernel))) rfl⟩
theorem km_X10_init : Cond.instanceMethod yX10_init ∈ gw := gw_at 359 (by decide +kernel) rfl
theorem km_X10_lineUpBelow : Cond.instanceMethod yX10_lineUpBelow ∈ gw ∧ Cond.selects yX10_lineUpBelow.cls yX10_lineUpBelow yX10_lineUpBelow ∈ gw := ⟨gw_at 860 (by decide +kernel) rfl, gw_in (List.mem_append_left _ (List.mem_of_getElem? (i := 21) (by decide +kernel))) rfl⟩
theorem km_X10_pageAt : Cond.instanceMethod yX10_pageAt ∈ gw ∧ Cond.selects yX10_pageAt.cls yX10_pageAt yX10_pageAt ∈ gw := ⟨gw_at 1146 (by decide +kernel) rfl, gw_at 1147 (by decide +kernel) rfl⟩
theorem km_X10_placeOfLeaf : Cond.instanceMethod yX10_placeOfLeaf ∈ gw ∧ Cond.selects yX10_placeOfLeaf.cls yX10_placeOfLeaf yX10_placeOfLeaf ∈ gw := ⟨gw_at 1164 (by decide +kernel) rfl, gw_at 1165 (by decide +kernel) rfl⟩
theorem km_X10_reachesCover : Cond.instanceMethod yX10_reachesCover ∈ gw ∧ Cond.selects yX10_reachesCover.cls yX10_reachesCover yX10_reachesCover ∈ gw := ⟨gw_at 1227 (by decide +kernel) rfl, gw_at 1228 (by decide +kernel) rfl⟩
theorem km_X10_renew : Cond.instanceMethod yX10_renew ∈ gw ∧ Cond.selects yX10_renew.cls yX10_renew yX10_renew ∈ gw := ⟨gw_at 847 (by decide +kernel) rfl, gw_in (List.mem_append_left _ (List.mem_of_getElem? (i := 20) (by decide +kernel))) rfl⟩
theorem km_X10_tighten : Cond.instanceMethod yX10_tighten ∈ gw ∧ Cond.selects yX10_tighten.cls yX10_tighten yX10_tighten ∈ gw := ⟨gw_at 842 (by decide +kernel) rfl, gw_at 843 (by decide +kernel) rfl⟩
theorem km_X11_act : Cond.instanceMethod yX11_act ∈ gw ∧ Cond.selects yX11_act.cls yX11_act yX11_act ∈ gw := ⟨gw_at 1002 (by decide +kernel) rfl, gw_in (List.mem_append_left _ (List.mem_of_getElem? (i := 33) (by decide +kernel))) rfl⟩
theorem km_X11_bitsOf : Cond.static yX11_bitsOf ∈ gw := gw_at 1345 (by decide +kernel) rfl
theorem km_X11_bringIn : Cond.instanceMethod yX11_bringIn ∈ gw ∧ Cond.selects yX11_bringIn.cls yX11_bringIn yX11_bringIn ∈ gw := ⟨gw_at 675 (by decide +kernel) rfl, gw_in (List.mem_append_left _ (List.mem_of_getElem? (i := 6) (by decide +kernel))) rfl⟩
theorem km_X11_canAdd : Cond.instanceMethod yX11_canAdd ∈ gw ∧ Cond.selects yX11_canAdd.cls yX11_canAdd yX11_canAdd ∈ gw := ⟨gw_at 597 (by decide +kernel) rfl, gw_in (List.mem_append_left _ (List.mem_of_getElem? (i := 3) (by decide +kernel))) rfl⟩
theorem km_X11_isCap : Cond.static yX11_isCap ∈ gw := gw_at 808 (by decide +kernel) rfl
theorem km_X11_isFar : Cond.static yX11_isFar ∈ gw := gw_at 815 (by decide +kernel) rfl
theorem km_X11_isHowMany : Cond.static yX11_isHowMany ∈ gw := gw_at 1018 (by decide +kernel) rfl
theorem km_X11_takeOut : Cond.instanceMethod yX11_takeOut ∈ gw ∧ Cond.selects yX11_takeOut.cls yX11_takeOut yX11_takeOut ∈ gw := ⟨gw_at 764 (by decide +kernel) rfl, gw_in (List.mem_append_left _ (List.mem_of_getElem? (i := 18) (by decide +kernel))) rfl⟩
theorem km_X1_follow : Cond.instanceMethod yX1_follow ∈ gw ∧ Cond.selects yX1_follow.cls yX1_follow yX1_follow ∈ gw := ⟨gw_at 682 (by decide +kernel) rfl, gw_at 683 (by decide +kernel) rfl⟩
theorem km_X1_init : Cond.instanceMethod yX1_init ∈ gw := gw_at 293 (by decide +kernel) rfl
theorem km_X1_learnUnknown : Cond.instanceMethod yX1_learnUnknown ∈ gw ∧ Cond.selects yX1_learnUnknown.cls yX1_learnUnknown yX1_learnUnknown ∈ gw := ⟨gw_at 691 (by decide +kernel) rfl, gw_in (List.mem_append_left _ (List.mem_of_getElem? (i := 8) (by decide +kernel))) rfl⟩
theorem km_X1_of : Cond.instanceMethod yX1_of ∈ gw ∧ Cond.selects yX1_of.cls yX1_of yX1_of ∈ gw := ⟨gw_at 726 (by decide +kernel) rfl, gw_at 727 (by decide +kernel) rfl⟩
theorem km_X1_unlearn : Cond.instanceMethod yX1_unlearn ∈ gw ∧ Cond.selects yX1_unlearn.cls yX1_unlearn yX1_unlearn ∈ gw := ⟨gw_at 687 (by decide +kernel) rfl, gw_in (List.mem_append_left _ (List.mem_of_getElem? (i := 7) (by decide +kernel))) rfl⟩
theorem km_X1_wayOf : Cond.instanceMethod yX1_wayOf ∈ gw ∧ Cond.selects yX1_wayOf.cls yX1_wayOf yX1_wayOf ∈ gw := ⟨gw_at 1154 (by decide +kernel) rfl, gw_at 1155 (by decide +kernel) rfl⟩
theorem km_X2_between : Cond.instanceMethod yX2_between ∈ gw ∧ Cond.selects yX2_between.cls yX2_between yX2_between ∈ gw := ⟨gw_at 694 (by decide +kernel) rfl, gw_at 695 (by decide +kernel) rfl⟩
theorem km_X2_byEdit : Cond.instanceMethod yX2_byEdit ∈ gw ∧ Cond.selects yX2_byEdit.cls yX2_byEdit yX2_byEdit ∈ gw := ⟨gw_at 702 (by decide +kernel) rfl, gw_in (List.mem_append_left _ (List.mem_of_getElem? (i := 9) (by decide +kernel))) rfl⟩
theorem km_X2_byHead : Cond.instanceMethod yX2_byHead ∈ gw ∧ Cond.selects yX2_byHead.cls yX2_byHead yX2_byHead ∈ gw := ⟨gw_at 714 (by decide +kernel) rfl, gw_in (List.mem_append_left _ (List.mem_of_getElem? (i := 12) (by decide +kernel))) rfl⟩
theorem km_X2_byPlace : Cond.instanceMethod yX2_byPlace ∈ gw ∧ Cond.selects yX2_byPlace.cls yX2_byPlace yX2_byPlace ∈ gw := ⟨gw_at 706 (by decide +kernel) rfl, gw_in (List.mem_append_left _ (List.mem_of_getElem? (i := 10) (by decide +kernel))) rfl⟩
theorem km_X2_bySum : Cond.instanceMethod yX2_bySum ∈ gw ∧ Cond.selects yX2_bySum.cls yX2_bySum yX2_bySum ∈ gw := ⟨gw_at 710 (by decide +kernel) rfl, gw_in (List.mem_append_left _ (List.mem_of_getElem? (i := 11) (by decide +kernel))) rfl⟩
theorem km_X2_init : Cond.instanceMethod yX2_init ∈ gw := gw_at 274 (by decide +kernel) rfl
theorem km_X2_letterAt : Cond.instanceMethod yX2_letterAt ∈ gw ∧ Cond.selects yX2_letterAt.cls yX2_letterAt yX2_letterAt ∈ gw := ⟨gw_at 1296 (by decide +kernel) rfl, gw_at 1297 (by decide +kernel) rfl⟩
theorem km_X2_lettersIn : Cond.instanceMethod yX2_lettersIn ∈ gw ∧ Cond.selects yX2_lettersIn.cls yX2_lettersIn yX2_lettersIn ∈ gw := ⟨gw_at 600 (by decide +kernel) rfl, gw_at 601 (by decide +kernel) rfl⟩
theorem km_X2_spellOut : Cond.static yX2_spellOut ∈ gw := gw_at 698 (by decide +kernel) rfl
theorem km_X3_copyFrom : Cond.instanceMethod yX3_copyFrom ∈ gw ∧ Cond.selects yX3_copyFrom.cls yX3_copyFrom yX3_copyFrom ∈ gw := ⟨gw_at 664 (by decide +kernel) rfl, gw_at 665 (by decide +kernel) rfl⟩
theorem km_X3_empty : Cond.instanceMethod yX3_empty ∈ gw ∧ Cond.selects yX3_empty.cls yX3_empty yX3_empty ∈ gw := ⟨gw_at 660 (by decide +kernel) rfl, gw_at 661 (by decide +kernel) rfl⟩
theorem km_X3_init : Cond.instanceMethod yX3_init ∈ gw := gw_at 72 (by decide +kernel) rfl
theorem km_X3_insertEntry : Cond.instanceMethod yX3_insertEntry ∈ gw ∧ Cond.selects yX3_insertEntry.cls yX3_insertEntry yX3_insertEntry ∈ gw := ⟨gw_at 730 (by decide +kernel) rfl, gw_at 731 (by decide +kernel) rfl⟩
theorem km_X3_placeIn : Cond.instanceMethod yX3_placeIn ∈ gw ∧ Cond.selects yX3_placeIn.cls yX3_placeIn yX3_placeIn ∈ gw := ⟨gw_at 779 (by decide +kernel) rfl, gw_at 780 (by decide +kernel) rfl⟩
theorem km_X3_removeEntry : Cond.instanceMethod yX3_removeEntry ∈ gw ∧ Cond.selects yX3_removeEntry.cls yX3_removeEntry yX3_removeEntry ∈ gw := ⟨gw_at 787 (by decide +kernel) rfl, gw_at 788 (by decide +kernel) rfl⟩
theorem km_X3_setEntry : Cond.instanceMethod yX3_setEntry ∈ gw ∧ Cond.selects yX3_setEntry.cls yX3_setEntry yX3_setEntry ∈ gw := ⟨gw_at 747 (by decide +kernel) rfl, gw_at 748 (by decide +kernel) rfl⟩
theorem km_X4_countSteps : Cond.instanceMethod yX4_countSteps ∈ gw ∧ Cond.selects yX4_countSteps.cls yX4_countSteps yX4_countSteps ∈ gw := ⟨gw_at 1085 (by decide +kernel) rfl, gw_at 1086 (by decide +kernel) rfl⟩
theorem km_X4_freeState : Cond.instanceMethod yX4_freeState ∈ gw ∧ Cond.selects yX4_freeState.cls yX4_freeState yX4_freeState ∈ gw := ⟨gw_at 641 (by decide +kernel) rfl, gw_in (List.mem_append_left _ (List.mem_of_getElem? (i := 5) (by decide +kernel))) rfl⟩
theorem km_X4_goBack : Cond.instanceMethod yX4_goBack ∈ gw ∧ Cond.selects yX4_goBack.cls yX4_goBack yX4_goBack ∈ gw := ⟨gw_at 1362 (by decide +kernel) rfl, gw_at 1363 (by decide +kernel) rfl⟩
theorem km_X4_init : Cond.instanceMethod yX4_init ∈ gw := gw_at 482 (by decide +kernel) rfl
theorem km_X4_keep : Cond.instanceMethod yX4_keep ∈ gw ∧ Cond.selects yX4_keep.cls yX4_keep yX4_keep ∈ gw := ⟨gw_at 609 (by decide +kernel) rfl, gw_at 610 (by decide +kernel) rfl⟩
theorem km_X4_setImage : Cond.instanceMethod yX4_setImage ∈ gw ∧ Cond.selects yX4_setImage.cls yX4_setImage yX4_setImage ∈ gw := ⟨gw_at 1353 (by decide +kernel) rfl, gw_at 1354 (by decide +kernel) rfl⟩
theorem km_X4_takeBack : Cond.instanceMethod yX4_takeBack ∈ gw ∧ Cond.selects yX4_takeBack.cls yX4_takeBack yX4_takeBack ∈ gw := ⟨gw_at 1089 (by decide +kernel) rfl, gw_at 1090 (by decide +kernel) rfl⟩
theorem km_X5_addByte : Cond.instanceMethod yX5_addByte ∈ gw ∧ Cond.selects yX5_addByte.cls yX5_addByte yX5_addByte ∈ gw := ⟨gw_at 997 (by decide +kernel) rfl, gw_at 998 (by decide +kernel) rfl⟩
theorem km_X5_addNumber : Cond.instanceMethod yX5_addNumber ∈ gw ∧ Cond.selects yX5_addNumber.cls yX5_addNumber yX5_addNumber ∈ gw := ⟨gw_at 1014 (by decide +kernel) rfl, gw_at 1015 (by decide +kernel) rfl⟩
theorem km_X5_addNumberOrNo : Cond.instanceMethod yX5_addNumberOrNo ∈ gw ∧ Cond.selects yX5_addNumberOrNo.cls yX5_addNumberOrNo yX5_addNumberOrNo ∈ gw := ⟨gw_at 1005 (by decide +kernel) rfl, gw_at 1006 (by decide +kernel) rfl⟩
theorem km_X5_addNumbers : Cond.instanceMethod yX5_addNumbers ∈ gw ∧ Cond.selects yX5_addNumbers.cls yX5_addNumbers yX5_addNumbers ∈ gw := ⟨gw_at 1065 (by decide +kernel) rfl, gw_at 1066 (by decide +kernel) rfl⟩
theorem km_X5_addOk : Cond.instanceMethod yX5_addOk ∈ gw ∧ Cond.selects yX5_addOk.cls yX5_addOk yX5_addOk ∈ gw := ⟨gw_at 1009 (by decide +kernel) rfl, gw_at 1010 (by decide +kernel) rfl⟩
theorem km_X5_init : Cond.instanceMethod yX5_init ∈ gw := gw_at 548 (by decide +kernel) rfl
theorem km_X6_answer : Cond.instanceMethod yX6_answer ∈ gw ∧ Cond.selects yX6_answer.cls yX6_answer yX6_answer ∈ gw := ⟨gw_at 1173 (by decide +kernel) rfl, gw_at 1174 (by decide +kernel) rfl⟩
theorem km_X6_boundBelow : Cond.instanceMethod yX6_boundBelow ∈ gw ∧ Cond.selects yX6_boundBelow.cls yX6_boundBelow yX6_boundBelow ∈ gw := ⟨gw_at 1062 (by decide +kernel) rfl, gw_in (List.mem_append_left _ (List.mem_of_getElem? (i := 42) (by decide +kernel))) rfl⟩
theorem km_X6_farTo : Cond.instanceMethod yX6_farTo ∈ gw ∧ Cond.selects yX6_farTo.cls yX6_farTo yX6_farTo ∈ gw := ⟨gw_at 1049 (by decide +kernel) rfl, gw_in (List.mem_append_left _ (List.mem_of_getElem? (i := 39) (by decide +kernel))) rfl⟩
theorem km_X6_goInto : Cond.instanceMethod yX6_goInto ∈ gw ∧ Cond.selects yX6_goInto.cls yX6_goInto yX6_goInto ∈ gw := ⟨gw_at 1040 (by decide +kernel) rfl, gw_in (List.mem_append_left _ (List.mem_of_getElem? (i := 37) (by decide +kernel))) rfl⟩
theorem km_X6_init : Cond.instanceMethod yX6_init ∈ gw := gw_at 377 (by decide +kernel) rfl
theorem km_X6_isAhead : Cond.instanceMethod yX6_isAhead ∈ gw ∧ Cond.selects yX6_isAhead.cls yX6_isAhead yX6_isAhead ∈ gw := ⟨gw_at 1058 (by decide +kernel) rfl, gw_in (List.mem_append_left _ (List.mem_of_getElem? (i := 41) (by decide +kernel))) rfl⟩
theorem km_X6_isBeyond : Cond.instanceMethod yX6_isBeyond ∈ gw ∧ Cond.selects yX6_isBeyond.cls yX6_isBeyond yX6_isBeyond ∈ gw := ⟨gw_at 1036 (by decide +kernel) rfl, gw_in (List.mem_append_left _ (List.mem_of_getElem? (i := 36) (by decide +kernel))) rfl⟩
theorem km_X6_leastRank : Cond.instanceMethod yX6_leastRank ∈ gw ∧ Cond.selects yX6_leastRank.cls yX6_leastRank yX6_leastRank ∈ gw := ⟨gw_at 1044 (by decide +kernel) rfl, gw_in (List.mem_append_left _ (List.mem_of_getElem? (i := 38) (by decide +kernel))) rfl⟩
theorem km_X6_letWait : Cond.instanceMethod yX6_letWait ∈ gw ∧ Cond.selects yX6_letWait.cls yX6_letWait yX6_letWait ∈ gw := ⟨gw_at 1028 (by decide +kernel) rfl, gw_in (List.mem_append_left _ (List.mem_of_getElem? (i := 34) (by decide +kernel))) rfl⟩
theorem km_X6_nextPage : Cond.instanceMethod yX6_nextPage ∈ gw ∧ Cond.selects yX6_nextPage.cls yX6_nextPage yX6_nextPage ∈ gw := ⟨gw_at 1032 (by decide +kernel) rfl, gw_in (List.mem_append_left _ (List.mem_of_getElem? (i := 35) (by decide +kernel))) rfl⟩
theorem km_X6_run : Cond.instanceMethod yX6_run ∈ gw ∧ Cond.selects yX6_run.cls yX6_run yX6_run ∈ gw := ⟨gw_at 1021 (by decide +kernel) rfl, gw_at 1022 (by decide +kernel) rfl⟩
theorem km_X6_take : Cond.instanceMethod yX6_take ∈ gw ∧ Cond.selects yX6_take.cls yX6_take yX6_take ∈ gw := ⟨gw_at 1054 (by decide +kernel) rfl, gw_in (List.mem_append_left _ (List.mem_of_getElem? (i := 40) (by decide +kernel))) rfl⟩
theorem km_X7_at : Cond.instanceMethod yX7_at ∈ gw ∧ Cond.selects yX7_at.cls yX7_at yX7_at ∈ gw := ⟨gw_at 655 (by decide +kernel) rfl, gw_at 656 (by decide +kernel) rfl⟩
theorem km_X7_clearPages : Cond.instanceMethod yX7_clearPages ∈ gw ∧ Cond.selects yX7_clearPages.cls yX7_clearPages yX7_clearPages ∈ gw := ⟨gw_at 795 (by decide +kernel) rfl, gw_at 796 (by decide +kernel) rfl⟩
theorem km_X7_copyFrom : Cond.instanceMethod yX7_copyFrom ∈ gw ∧ Cond.selects yX7_copyFrom.cls yX7_copyFrom yX7_copyFrom ∈ gw := ⟨gw_at 645 (by decide +kernel) rfl, gw_at 646 (by decide +kernel) rfl⟩
theorem km_X7_forget : Cond.instanceMethod yX7_forget ∈ gw ∧ Cond.selects yX7_forget.cls yX7_forget yX7_forget ∈ gw := ⟨gw_at 767 (by decide +kernel) rfl, gw_at 768 (by decide +kernel) rfl⟩
theorem km_X7_freeNumber : Cond.instanceMethod yX7_freeNumber ∈ gw ∧ Cond.selects yX7_freeNumber.cls yX7_freeNumber yX7_freeNumber ∈ gw := ⟨gw_at 669 (by decide +kernel) rfl, gw_at 670 (by decide +kernel) rfl⟩
theorem km_X7_has : Cond.instanceMethod yX7_has ∈ gw ∧ Cond.selects yX7_has.cls yX7_has yX7_has ∈ gw := ⟨gw_at 759 (by decide +kernel) rfl, gw_at 760 (by decide +kernel) rfl⟩
theorem km_X7_init : Cond.instanceMethod yX7_init ∈ gw := gw_at 39 (by decide +kernel) rfl
theorem km_X7_noteTold : Cond.instanceMethod yX7_noteTold ∈ gw ∧ Cond.selects yX7_noteTold.cls yX7_noteTold yX7_noteTold ∈ gw := ⟨gw_at 822 (by decide +kernel) rfl, gw_at 823 (by decide +kernel) rfl⟩
theorem km_X7_numberOf : Cond.instanceMethod yX7_numberOf ∈ gw ∧ Cond.selects yX7_numberOf.cls yX7_numberOf yX7_numberOf ∈ gw := ⟨gw_at 605 (by decide +kernel) rfl, gw_at 606 (by decide +kernel) rfl⟩
theorem km_X7_setTold : Cond.instanceMethod yX7_setTold ∈ gw ∧ Cond.selects yX7_setTold.cls yX7_setTold yX7_setTold ∈ gw := ⟨gw_at 772 (by decide +kernel) rfl, gw_in (List.mem_append_left _ (List.mem_of_getElem? (i := 19) (by decide +kernel))) rfl⟩
theorem km_X7_setWord : Cond.instanceMethod yX7_setWord ∈ gw ∧ Cond.selects yX7_setWord.cls yX7_setWord yX7_setWord ∈ gw := ⟨gw_at 678 (by decide +kernel) rfl, gw_at 679 (by decide +kernel) rfl⟩
theorem km_X7_takePage : Cond.instanceMethod yX7_takePage ∈ gw ∧ Cond.selects yX7_takePage.cls yX7_takePage yX7_takePage ∈ gw := ⟨gw_at 650 (by decide +kernel) rfl, gw_at 651 (by decide +kernel) rfl⟩
theorem km_X7_toldAt : Cond.instanceMethod yX7_toldAt ∈ gw ∧ Cond.selects yX7_toldAt.cls yX7_toldAt yX7_toldAt ∈ gw := ⟨gw_at 818 (by decide +kernel) rfl, gw_at 819 (by decide +kernel) rfl⟩
theorem km_X8_breaksBetween : Cond.instanceMethod yX8_breaksBetween ∈ gw ∧ Cond.selects yX8_breaksBetween.cls yX8_breaksBetween yX8_breaksBetween ∈ gw := ⟨gw_at 1216 (by decide +kernel) rfl, gw_in (List.mem_append_left _ (List.mem_of_getElem? (i := 45) (by decide +kernel))) rfl⟩
theorem km_X8_breaksFrom : Cond.instanceMethod yX8_breaksFrom ∈ gw ∧ Cond.selects yX8_breaksFrom.cls yX8_breaksFrom yX8_breaksFrom ∈ gw := ⟨gw_at 1211 (by decide +kernel) rfl, gw_in (List.mem_append_left _ (List.mem_of_getElem? (i := 44) (by decide +kernel))) rfl⟩
theorem km_X8_countPairs : Cond.instanceMethod yX8_countPairs ∈ gw ∧ Cond.selects yX8_countPairs.cls yX8_countPairs yX8_countPairs ∈ gw := ⟨gw_at 1247 (by decide +kernel) rfl, gw_at 1248 (by decide +kernel) rfl⟩
theorem km_X8_coupleAt : Cond.instanceMethod yX8_coupleAt ∈ gw ∧ Cond.selects yX8_coupleAt.cls yX8_coupleAt yX8_coupleAt ∈ gw := ⟨gw_at 1251 (by decide +kernel) rfl, gw_at 1252 (by decide +kernel) rfl⟩
theorem km_X8_extremePair : Cond.instanceMethod yX8_extremePair ∈ gw ∧ Cond.selects yX8_extremePair.cls yX8_extremePair yX8_extremePair ∈ gw := ⟨gw_at 1235 (by decide +kernel) rfl, gw_at 1236 (by decide +kernel) rfl⟩
theorem km_X8_findBreak : Cond.instanceMethod yX8_findBreak ∈ gw ∧ Cond.selects yX8_findBreak.cls yX8_findBreak yX8_findBreak ∈ gw := ⟨gw_at 1205 (by decide +kernel) rfl, gw_at 1206 (by decide +kernel) rfl⟩
theorem km_X8_findLonely : Cond.instanceMethod yX8_findLonely ∈ gw ∧ Cond.selects yX8_findLonely.cls yX8_findLonely yX8_findLonely ∈ gw := ⟨gw_at 1263 (by decide +kernel) rfl, gw_at 1264 (by decide +kernel) rfl⟩
theorem km_X8_findMiddle : Cond.instanceMethod yX8_findMiddle ∈ gw ∧ Cond.selects yX8_findMiddle.cls yX8_findMiddle yX8_findMiddle ∈ gw := ⟨gw_at 1280 (by decide +kernel) rfl, gw_at 1281 (by decide +kernel) rfl⟩
theorem km_X8_init : Cond.instanceMethod yX8_init ∈ gw := gw_at 444 (by decide +kernel) rfl
theorem km_X8_isPair : Cond.instanceMethod yX8_isPair ∈ gw ∧ Cond.selects yX8_isPair.cls yX8_isPair yX8_isPair ∈ gw := ⟨gw_at 1240 (by decide +kernel) rfl, gw_in (List.mem_append_left _ (List.mem_of_getElem? (i := 46) (by decide +kernel))) rfl⟩
theorem km_X8_join : Cond.instanceMethod yX8_join ∈ gw ∧ Cond.selects yX8_join.cls yX8_join yX8_join ∈ gw := ⟨gw_at 1309 (by decide +kernel) rfl, gw_at 1310 (by decide +kernel) rfl⟩
theorem km_X8_leastFrom : Cond.instanceMethod yX8_leastFrom ∈ gw ∧ Cond.selects yX8_leastFrom.cls yX8_leastFrom yX8_leastFrom ∈ gw := ⟨gw_at 1268 (by decide +kernel) rfl, gw_in (List.mem_append_left _ (List.mem_of_getElem? (i := 47) (by decide +kernel))) rfl⟩
theorem km_X8_linkFrom : Cond.instanceMethod yX8_linkFrom ∈ gw ∧ Cond.selects yX8_linkFrom.cls yX8_linkFrom yX8_linkFrom ∈ gw := ⟨gw_at 1325 (by decide +kernel) rfl, gw_at 1326 (by decide +kernel) rfl⟩
theorem km_X8_nearestUnchosen : Cond.instanceMethod yX8_nearestUnchosen ∈ gw ∧ Cond.selects yX8_nearestUnchosen.cls yX8_nearestUnchosen yX8_nearestUnchosen ∈ gw := ⟨gw_at 1330 (by decide +kernel) rfl, gw_in (List.mem_append_left _ (List.mem_of_getElem? (i := 51) (by decide +kernel))) rfl⟩
theorem km_X8_pivotAfter : Cond.instanceMethod yX8_pivotAfter ∈ gw ∧ Cond.selects yX8_pivotAfter.cls yX8_pivotAfter yX8_pivotAfter ∈ gw := ⟨gw_at 1289 (by decide +kernel) rfl, gw_in (List.mem_append_left _ (List.mem_of_getElem? (i := 49) (by decide +kernel))) rfl⟩
theorem km_X8_pivotAt : Cond.instanceMethod yX8_pivotAt ∈ gw ∧ Cond.selects yX8_pivotAt.cls yX8_pivotAt yX8_pivotAt ∈ gw := ⟨gw_at 1275 (by decide +kernel) rfl, gw_at 1276 (by decide +kernel) rfl⟩
theorem km_X8_relabel : Cond.instanceMethod yX8_relabel ∈ gw ∧ Cond.selects yX8_relabel.cls yX8_relabel yX8_relabel ∈ gw := ⟨gw_at 1314 (by decide +kernel) rfl, gw_in (List.mem_append_left _ (List.mem_of_getElem? (i := 50) (by decide +kernel))) rfl⟩
theorem km_X8_sizeOfGroup : Cond.instanceMethod yX8_sizeOfGroup ∈ gw ∧ Cond.selects yX8_sizeOfGroup.cls yX8_sizeOfGroup yX8_sizeOfGroup ∈ gw := ⟨gw_at 1317 (by decide +kernel) rfl, gw_at 1318 (by decide +kernel) rfl⟩
theorem km_X8_sumFrom : Cond.instanceMethod yX8_sumFrom ∈ gw ∧ Cond.selects yX8_sumFrom.cls yX8_sumFrom yX8_sumFrom ∈ gw := ⟨gw_at 1285 (by decide +kernel) rfl, gw_in (List.mem_append_left _ (List.mem_of_getElem? (i := 48) (by decide +kernel))) rfl⟩
theorem km_X8_sumOfPairs : Cond.instanceMethod yX8_sumOfPairs ∈ gw ∧ Cond.selects yX8_sumOfPairs.cls yX8_sumOfPairs yX8_sumOfPairs ∈ gw := ⟨gw_at 1341 (by decide +kernel) rfl, gw_at 1342 (by decide +kernel) rfl⟩
theorem km_X9_buildAnew : Cond.instanceMethod yX9_buildAnew ∈ gw ∧ Cond.selects yX9_buildAnew.cls yX9_buildAnew yX9_buildAnew ∈ gw := ⟨gw_at 791 (by decide +kernel) rfl, gw_at 792 (by decide +kernel) rfl⟩
theorem km_X9_countEntries : Cond.instanceMethod yX9_countEntries ∈ gw ∧ Cond.selects yX9_countEntries.cls yX9_countEntries yX9_countEntries ∈ gw := ⟨gw_at 1105 (by decide +kernel) rfl, gw_at 1106 (by decide +kernel) rfl⟩
theorem km_X9_countLeaves : Cond.instanceMethod yX9_countLeaves ∈ gw ∧ Cond.selects yX9_countLeaves.cls yX9_countLeaves yX9_countLeaves ∈ gw := ⟨gw_at 1097 (by decide +kernel) rfl, gw_at 1098 (by decide +kernel) rfl⟩
theorem km_X9_countLevels : Cond.instanceMethod yX9_countLevels ∈ gw ∧ Cond.selects yX9_countLevels.cls yX9_countLevels yX9_countLevels ∈ gw := ⟨gw_at 1101 (by decide +kernel) rfl, gw_at 1102 (by decide +kernel) rfl⟩
theorem km_X9_countOverlaps : Cond.instanceMethod yX9_countOverlaps ∈ gw ∧ Cond.selects yX9_countOverlaps.cls yX9_countOverlaps yX9_countOverlaps ∈ gw := ⟨gw_at 1109 (by decide +kernel) rfl, gw_at 1110 (by decide +kernel) rfl⟩
theorem km_X9_entryFor : Cond.instanceMethod yX9_entryFor ∈ gw ∧ Cond.selects yX9_entryFor.cls yX9_entryFor yX9_entryFor ∈ gw := ⟨gw_at 723 (by decide +kernel) rfl, gw_in (List.mem_append_left _ (List.mem_of_getElem? (i := 13) (by decide +kernel))) rfl⟩
theorem km_X9_hasCentre : Cond.instanceMethod yX9_hasCentre ∈ gw ∧ Cond.selects yX9_hasCentre.cls yX9_hasCentre yX9_hasCentre ∈ gw := ⟨gw_at 775 (by decide +kernel) rfl, gw_at 776 (by decide +kernel) rfl⟩
theorem km_X9_init : Cond.instanceMethod yX9_init ∈ gw := gw_at 321 (by decide +kernel) rfl
theorem km_X9_insert : Cond.instanceMethod yX9_insert ∈ gw ∧ Cond.selects yX9_insert.cls yX9_insert yX9_insert ∈ gw := ⟨gw_at 717 (by decide +kernel) rfl, gw_at 718 (by decide +kernel) rfl⟩
theorem km_X9_makeRoot : Cond.instanceMethod yX9_makeRoot ∈ gw ∧ Cond.selects yX9_makeRoot.cls yX9_makeRoot yX9_makeRoot ∈ gw := ⟨gw_at 752 (by decide +kernel) rfl, gw_in (List.mem_append_left _ (List.mem_of_getElem? (i := 17) (by decide +kernel))) rfl⟩
theorem km_X9_overlapsIn : Cond.instanceMethod yX9_overlapsIn ∈ gw ∧ Cond.selects yX9_overlapsIn.cls yX9_overlapsIn yX9_overlapsIn ∈ gw := ⟨gw_at 1114 (by decide +kernel) rfl, gw_in (List.mem_append_left _ (List.mem_of_getElem? (i := 43) (by decide +kernel))) rfl⟩
theorem km_X9_part : Cond.instanceMethod yX9_part ∈ gw ∧ Cond.selects yX9_part.cls yX9_part yX9_part ∈ gw := ⟨gw_at 744 (by decide +kernel) rfl, gw_in (List.mem_append_left _ (List.mem_of_getElem? (i := 16) (by decide +kernel))) rfl⟩
theorem km_X9_split : Cond.instanceMethod yX9_split ∈ gw ∧ Cond.selects yX9_split.cls yX9_split yX9_split ∈ gw := ⟨gw_at 735 (by decide +kernel) rfl, gw_in (List.mem_append_left _ (List.mem_of_getElem? (i := 14) (by decide +kernel))) rfl⟩
theorem km_X9_sumReaches : Cond.instanceMethod yX9_sumReaches ∈ gw ∧ Cond.selects yX9_sumReaches.cls yX9_sumReaches yX9_sumReaches ∈ gw := ⟨gw_at 1117 (by decide +kernel) rfl, gw_at 1118 (by decide +kernel) rfl⟩
theorem km_X9_takeFromLeaf : Cond.instanceMethod yX9_takeFromLeaf ∈ gw ∧ Cond.selects yX9_takeFromLeaf.cls yX9_takeFromLeaf yX9_takeFromLeaf ∈ gw := ⟨gw_at 783 (by decide +kernel) rfl, gw_at 784 (by decide +kernel) rfl⟩
theorem km_X9_weigh : Cond.instanceMethod yX9_weigh ∈ gw ∧ Cond.selects yX9_weigh.cls yX9_weigh yX9_weigh ∈ gw := ⟨gw_at 739 (by decide +kernel) rfl, gw_in (List.mem_append_left _ (List.mem_of_getElem? (i := 15) (by decide +kernel))) rfl⟩
theorem oi_X0_3 : Cond.methodLink RX0 3 objectInit ∈ gw := gw_at 507 (by decide +kernel) rfl
theorem oi_X1_3 : Cond.methodLink RX1 3 objectInit ∈ gw := gw_at 295 (by decide +kernel) rfl
theorem oi_X2_3 : Cond.methodLink RX2 3 objectInit ∈ gw := gw_at 276 (by decide +kernel) rfl
theorem oi_X3_3 : Cond.methodLink RX3 3 objectInit ∈ gw := gw_at 74 (by decide +kernel) rfl
theorem ac_X3_32 : Cond.methodLink RX3 32 arraycopyName ∈ gw := gw_at 667 (by decide +kernel) rfl
theorem oi_Jxa1e45_1 : Cond.methodLink RJxa1e45 1 objectInit ∈ gw := gw_at 53 (by decide +kernel) rfl
theorem sw_Jx4a65c_39 : Cond.fieldLink RJx4a65c 39 "java/util/ArrayList" "DEFAULTCAPACITY_EMPTY_ELEMENTDATA" "[Ljava/lang/Object;" ∈ gw := gw_at 54 (by decide +kernel) rfl
theorem mm_J8_194 : Cond.methodLink RJ8 194 Lib.Math.max.name ∈ gw := gw_at 166 (by decide +kernel) rfl
theorem cl_J7_110 : Cond.classLink RJ7 110 "[Ljava/lang/Object;" ∈ gw := gw_at 197 (by decide +kernel) rfl
theorem cl_J7_2 : Cond.classLink RJ7 2 "java/lang/Object" ∈ gw := gw_at 199 (by decide +kernel) rfl
theorem mm_J7_304 : Cond.methodLink RJ7 304 Lib.Math.min.name ∈ gw := gw_at 200 (by decide +kernel) rfl
theorem ac_J7_150 : Cond.methodLink RJ7 150 arraycopyName ∈ gw := gw_at 203 (by decide +kernel) rfl
theorem gc_J7_86 : Cond.methodLink RJ7 86 ⟨"java/lang/Object", "getClass", "()Ljava/lang/Class;"⟩ ∈ gw := gw_at 176 (by decide +kernel) rfl
theorem mm_Jx4a65c_79 : Cond.methodLink RJx4a65c 79 Lib.Math.max.name ∈ gw := gw_at 206 (by decide +kernel) rfl
theorem cl_Jx4a65c_7 : Cond.classLink RJx4a65c 7 "java/lang/Object" ∈ gw := gw_at 207 (by decide +kernel) rfl
theorem oi_X7_3 : Cond.methodLink RX7 3 objectInit ∈ gw := gw_at 41 (by decide +kernel) rfl
theorem cl_X7_31 : Cond.classLink RX7 31 "java/util/ArrayList" ∈ gw := gw_at 42 (by decide +kernel) rfl
theorem is_Jx4a65c : Cond.instantiable RJx4a65c 3 ∈ gw := gw_at 43 (by decide +kernel) rfl
theorem ii_Jx4a65c : Cond.initialized RJx4a65c ∈ gw := gw_at 5 (by decide +kernel) rfl
theorem cl_X7_41 : Cond.classLink RX7 41 "LikePages$Page" ∈ gw := gw_at 69 (by decide +kernel) rfl
theorem is_X3 : Cond.instantiable RX3 14 ∈ gw := gw_at 70 (by decide +kernel) rfl
theorem ii_X3 : Cond.initialized RX3 ∈ gw := gw_at 6 (by decide +kernel) rfl
theorem kc_X3_init : Cond.code yX3_init cX3_init 1 none ∈ gw ∧ Cond.initialized yX3_init.cls ∈ gw := ⟨gw_at 73 (by decide +kernel) rfl, gw_at 6 (by decide +kernel) rfl⟩
theorem oi_X4_3 : Cond.methodLink RX4 3 objectInit ∈ gw := gw_at 484 (by decide +kernel) rfl
theorem cl_X4_9 : Cond.classLink RX4 9 "java/util/ArrayList" ∈ gw := gw_at 485 (by decide +kernel) rfl
theorem cl_X4_24 : Cond.classLink RX4 24 "LikePages$State" ∈ gw := gw_at 487 (by decide +kernel) rfl
theorem is_X7 : Cond.instantiable RX7 13 ∈ gw := gw_at 37 (by decide +kernel) rfl
theorem ii_X7 : Cond.initialized RX7 ∈ gw := gw_at 2 (by decide +kernel) rfl
theorem ac_Jx4a65c_112 : Cond.methodLink RJx4a65c 112 arraycopyName ∈ gw := gw_at 638 (by decide +kernel) rfl
theorem ac_X7_85 : Cond.methodLink RX7 85 arraycopyName ∈ gw := gw_at 648 (by decide +kernel) rfl
theorem oi_X5_3 : Cond.methodLink RX5 3 objectInit ∈ gw := gw_at 550 (by decide +kernel) rfl
theorem oi_X6_3 : Cond.methodLink RX6 3 objectInit ∈ gw := gw_at 379 (by decide +kernel) rfl
theorem oi_X8_3 : Cond.methodLink RX8 3 objectInit ∈ gw := gw_at 446 (by decide +kernel) rfl
theorem oi_X9_3 : Cond.methodLink RX9 3 objectInit ∈ gw := gw_at 323 (by decide +kernel) rfl
theorem oi_X10_3 : Cond.methodLink RX10 3 objectInit ∈ gw := gw_at 361 (by decide +kernel) rfl
theorem cl_X10_9 : Cond.classLink RX10 9 "java/util/ArrayList" ∈ gw := gw_at 362 (by decide +kernel) rfl
theorem cl_X10_43 : Cond.classLink RX10 43 "LikePages$Page" ∈ gw := gw_at 857 (by decide +kernel) rfl
theorem oi_X11_3 : Cond.methodLink RX11 3 objectInit ∈ gw := gw_at 33 (by decide +kernel) rfl
theorem cl_X11_9 : Cond.classLink RX11 9 "LikePages$State" ∈ gw := gw_at 36 (by decide +kernel) rfl
theorem cl_X11_16 : Cond.classLink RX11 16 "LikePages$Measures" ∈ gw := gw_at 271 (by decide +kernel) rfl
theorem is_X2 : Cond.instantiable RX2 4 ∈ gw := gw_at 272 (by decide +kernel) rfl
theorem ii_X2 : Cond.initialized RX2 ∈ gw := gw_at 11 (by decide +kernel) rfl
theorem kc_X2_init : Cond.code yX2_init cX2_init 1 none ∈ gw ∧ Cond.initialized yX2_init.cls ∈ gw := ⟨gw_at 275 (by decide +kernel) rfl, gw_at 11 (by decide +kernel) rfl⟩
theorem cl_X11_23 : Cond.classLink RX11 23 "LikePages$Fars" ∈ gw := gw_at 290 (by decide +kernel) rfl
theorem is_X1 : Cond.instantiable RX1 6 ∈ gw := gw_at 291 (by decide +kernel) rfl
theorem ii_X1 : Cond.initialized RX1 ∈ gw := gw_at 12 (by decide +kernel) rfl
theorem cl_X11_32 : Cond.classLink RX11 32 "LikePages$Tree" ∈ gw := gw_at 318 (by decide +kernel) rfl
theorem is_X9 : Cond.instantiable RX9 10 ∈ gw := gw_at 319 (by decide +kernel) rfl
theorem ii_X9 : Cond.initialized RX9 ∈ gw := gw_at 13 (by decide +kernel) rfl
theorem cl_X11_41 : Cond.classLink RX11 41 "LikePages$Walk" ∈ gw := gw_at 356 (by decide +kernel) rfl
theorem is_X10 : Cond.instantiable RX10 3 ∈ gw := gw_at 357 (by decide +kernel) rfl
theorem ii_X10 : Cond.initialized RX10 ∈ gw := gw_at 14 (by decide +kernel) rfl
theorem cl_X11_48 : Cond.classLink RX11 48 "LikePages$Search" ∈ gw := gw_at 374 (by decide +kernel) rfl
theorem is_X6 : Cond.instantiable RX6 18 ∈ gw := gw_at 375 (by decide +kernel) rfl
theorem ii_X6 : Cond.initialized RX6 ∈ gw := gw_at 15 (by decide +kernel) rfl
theorem cl_X11_57 : Cond.classLink RX11 57 "LikePages$Survey" ∈ gw := gw_at 441 (by decide +kernel) rfl
theorem is_X8 : Cond.instantiable RX8 9 ∈ gw := gw_at 442 (by decide +kernel) rfl
theorem ii_X8 : Cond.initialized RX8 ∈ gw := gw_at 16 (by decide +kernel) rfl
theorem cl_X11_64 : Cond.classLink RX11 64 "LikePages$Past" ∈ gw := gw_at 479 (by decide +kernel) rfl
theorem is_X4 : Cond.instantiable RX4 4 ∈ gw := gw_at 480 (by decide +kernel) rfl
theorem ii_X4 : Cond.initialized RX4 ∈ gw := gw_at 17 (by decide +kernel) rfl
theorem kc_X4_init : Cond.code yX4_init cX4_init 1 none ∈ gw ∧ Cond.initialized yX4_init.cls ∈ gw := ⟨gw_at 483 (by decide +kernel) rfl, gw_at 17 (by decide +kernel) rfl⟩
theorem cl_X11_71 : Cond.classLink RX11 71 "LikePages$Commands" ∈ gw := gw_at 502 (by decide +kernel) rfl
theorem is_X0 : Cond.instantiable RX0 10 ∈ gw := gw_at 503 (by decide +kernel) rfl
theorem ii_X0 : Cond.initialized RX0 ∈ gw := gw_at 18 (by decide +kernel) rfl
theorem kc_X0_init : Cond.code yX0_init cX0_init 1 none ∈ gw ∧ Cond.initialized yX0_init.cls ∈ gw := ⟨gw_at 506 (by decide +kernel) rfl, gw_at 18 (by decide +kernel) rfl⟩
theorem cl_X11_78 : Cond.classLink RX11 78 "LikePages$Replies" ∈ gw := gw_at 545 (by decide +kernel) rfl
theorem is_X5 : Cond.instantiable RX5 2 ∈ gw := gw_at 546 (by decide +kernel) rfl
theorem ii_X5 : Cond.initialized RX5 ∈ gw := gw_at 19 (by decide +kernel) rfl
theorem kc_X5_init : Cond.code yX5_init cX5_init 1 none ∈ gw ∧ Cond.initialized yX5_init.cls ∈ gw := ⟨gw_at 549 (by decide +kernel) rfl, gw_at 19 (by decide +kernel) rfl⟩
