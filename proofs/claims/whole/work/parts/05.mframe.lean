def m_lay : List Nat := [1456, 1458, 1460, 1462, 1464, 1466, 1468, 1470, 1472, 1474, 1476, 1478, 1480, 1482, 1484, 1486, 1488, 1490, 1492, 1494, 1496, 1498, 1500, 1502, 1504, 1506, 1508, 1510, 1512, 1514, 1516, 1518, 1520, 1522, 1524, 1526, 1528, 1530, 1532, 1534, 1536, 1538, 1540, 1542, 1544, 1546, 1548, 1550, 1552, 1554, 1556, 1558, 1560]
theorem m_lay_ok : ∀ k, k < 53 → tables_1[m_lay.getD k 0]? = some (u_lay RX12 TX12 k) ∧ goodWord (u_lay RX12 TX12 k) = true := by decide +kernel
theorem m_in : ∀ w ∈ u_ws RX12 TX12 53, w ∈ gw := by
  intro w hw
  obtain ⟨k, hk, rfl⟩ := List.mem_map.mp hw
  have h := m_lay_ok k (List.mem_range.mp hk)
  exact gw_at _ h.1 h.2
theorem fl_a : Cond.fieldLink RX12 8 "LikePagesModel" (TX12 0).2.1 (TX12 0).2.2.1 ∈ gw := gw_at 1403 (by decide +kernel) rfl
theorem fl_image : Cond.fieldLink RX12 14 "LikePagesModel" (TX12 1).2.1 (TX12 1).2.2.1 ∈ gw := gw_at 1404 (by decide +kernel) rfl
theorem fl_now : Cond.fieldLink RX12 17 "LikePagesModel" (TX12 2).2.1 (TX12 2).2.2.1 ∈ gw := gw_at 1405 (by decide +kernel) rfl
theorem fl_ahead : Cond.fieldLink RX12 20 "LikePagesModel" (TX12 3).2.1 (TX12 3).2.2.1 ∈ gw := gw_at 1406 (by decide +kernel) rfl
theorem fl_pathPage : Cond.fieldLink RX12 23 "LikePagesModel" (TX12 4).2.1 (TX12 4).2.2.1 ∈ gw := gw_at 1407 (by decide +kernel) rfl
theorem fl_pathEntry : Cond.fieldLink RX12 26 "LikePagesModel" (TX12 5).2.1 (TX12 5).2.2.1 ∈ gw := gw_at 1408 (by decide +kernel) rfl
theorem fl_isSecond : Cond.fieldLink RX12 29 "LikePagesModel" (TX12 6).2.1 (TX12 6).2.2.1 ∈ gw := gw_at 1409 (by decide +kernel) rfl
theorem fl_isSecondBest : Cond.fieldLink RX12 33 "LikePagesModel" (TX12 7).2.1 (TX12 7).2.2.1 ∈ gw := gw_at 1410 (by decide +kernel) rfl
theorem fl_reachOne : Cond.fieldLink RX12 196 "LikePagesModel" (TX12 8).2.1 (TX12 8).2.2.1 ∈ gw := gw_at 1411 (by decide +kernel) rfl
theorem fl_reachTwo : Cond.fieldLink RX12 199 "LikePagesModel" (TX12 9).2.1 (TX12 9).2.2.1 ∈ gw := gw_at 1412 (by decide +kernel) rfl
theorem fl_bestOne : Cond.fieldLink RX12 206 "LikePagesModel" (TX12 10).2.1 (TX12 10).2.2.1 ∈ gw := gw_at 1413 (by decide +kernel) rfl
theorem fl_bestTwo : Cond.fieldLink RX12 209 "LikePagesModel" (TX12 11).2.1 (TX12 11).2.2.1 ∈ gw := gw_at 1414 (by decide +kernel) rfl
theorem fl_oneReach : Cond.fieldLink RX12 212 "LikePagesModel" (TX12 12).2.1 (TX12 12).2.2.1 ∈ gw := gw_at 1415 (by decide +kernel) rfl
theorem fl_twoReach : Cond.fieldLink RX12 215 "LikePagesModel" (TX12 13).2.1 (TX12 13).2.2.1 ∈ gw := gw_at 1416 (by decide +kernel) rfl
theorem fl_placeOf : Cond.fieldLink RX12 224 "LikePagesModel" (TX12 14).2.1 (TX12 14).2.2.1 ∈ gw := gw_at 1417 (by decide +kernel) rfl
theorem fl_below : Cond.fieldLink RX12 36 "LikePagesModel" (TX12 15).2.1 (TX12 15).2.2.1 ∈ gw := gw_at 1418 (by decide +kernel) rfl
theorem fl_stack : Cond.fieldLink RX12 39 "LikePagesModel" (TX12 16).2.1 (TX12 16).2.2.1 ∈ gw := gw_at 1419 (by decide +kernel) rfl
theorem fl_orderOf : Cond.fieldLink RX12 42 "LikePagesModel" (TX12 17).2.1 (TX12 17).2.2.1 ∈ gw := gw_at 1420 (by decide +kernel) rfl
theorem fl_deepOf : Cond.fieldLink RX12 45 "LikePagesModel" (TX12 18).2.1 (TX12 18).2.2.1 ∈ gw := gw_at 1421 (by decide +kernel) rfl
theorem fl_aboveOf : Cond.fieldLink RX12 48 "LikePagesModel" (TX12 19).2.1 (TX12 19).2.2.1 ∈ gw := gw_at 1422 (by decide +kernel) rfl
theorem fl_whichOf : Cond.fieldLink RX12 51 "LikePagesModel" (TX12 20).2.1 (TX12 20).2.2.1 ∈ gw := gw_at 1423 (by decide +kernel) rfl
theorem fl_waitDeep : Cond.fieldLink RX12 54 "LikePagesModel" (TX12 21).2.1 (TX12 21).2.2.1 ∈ gw := gw_at 1424 (by decide +kernel) rfl
theorem fl_waitAbove : Cond.fieldLink RX12 57 "LikePagesModel" (TX12 22).2.1 (TX12 22).2.2.1 ∈ gw := gw_at 1425 (by decide +kernel) rfl
theorem fl_waitWhich : Cond.fieldLink RX12 60 "LikePagesModel" (TX12 23).2.1 (TX12 23).2.2.1 ∈ gw := gw_at 1426 (by decide +kernel) rfl
theorem fl_measured : Cond.fieldLink RX12 63 "LikePagesModel" (TX12 24).2.1 (TX12 24).2.2.1 ∈ gw := gw_at 1427 (by decide +kernel) rfl
theorem fl_found : Cond.fieldLink RX12 66 "LikePagesModel" (TX12 25).2.1 (TX12 25).2.2.1 ∈ gw := gw_at 1428 (by decide +kernel) rfl
theorem fl_founds : Cond.fieldLink RX12 303 "LikePagesModel" (TX12 26).2.1 (TX12 26).2.2.1 ∈ gw := gw_at 1429 (by decide +kernel) rfl
theorem fl_costs : Cond.fieldLink RX12 306 "LikePagesModel" (TX12 27).2.1 (TX12 27).2.2.1 ∈ gw := gw_at 1430 (by decide +kernel) rfl
theorem fl_spared : Cond.fieldLink RX12 309 "LikePagesModel" (TX12 28).2.1 (TX12 28).2.2.1 ∈ gw := gw_at 1431 (by decide +kernel) rfl
theorem fl_looked : Cond.fieldLink RX12 312 "LikePagesModel" (TX12 29).2.1 (TX12 29).2.2.1 ∈ gw := gw_at 1432 (by decide +kernel) rfl
theorem fl_asker : Cond.fieldLink RX12 315 "LikePagesModel" (TX12 30).2.1 (TX12 30).2.2.1 ∈ gw := gw_at 1433 (by decide +kernel) rfl
theorem fl_askedWord : Cond.fieldLink RX12 318 "LikePagesModel" (TX12 31).2.1 (TX12 31).2.2.1 ∈ gw := gw_at 1434 (by decide +kernel) rfl
theorem fl_answered : Cond.fieldLink RX12 339 "LikePagesModel" (TX12 32).2.1 (TX12 32).2.2.1 ∈ gw := gw_at 1435 (by decide +kernel) rfl
theorem fl_isAsked : Cond.fieldLink RX12 321 "LikePagesModel" (TX12 33).2.1 (TX12 33).2.2.1 ∈ gw := gw_at 1436 (by decide +kernel) rfl
theorem fl_waitPage : Cond.fieldLink RX12 69 "LikePagesModel" (TX12 34).2.1 (TX12 34).2.2.1 ∈ gw := gw_at 1437 (by decide +kernel) rfl
theorem fl_waitBound : Cond.fieldLink RX12 72 "LikePagesModel" (TX12 35).2.1 (TX12 35).2.2.1 ∈ gw := gw_at 1438 (by decide +kernel) rfl
theorem fl_waitFar : Cond.fieldLink RX12 75 "LikePagesModel" (TX12 36).2.1 (TX12 36).2.2.1 ∈ gw := gw_at 1439 (by decide +kernel) rfl
theorem fl_waiting : Cond.fieldLink RX12 342 "LikePagesModel" (TX12 37).2.1 (TX12 37).2.2.1 ∈ gw := gw_at 1440 (by decide +kernel) rfl
theorem fl_broke : Cond.fieldLink RX12 78 "LikePagesModel" (TX12 38).2.1 (TX12 38).2.2.1 ∈ gw := gw_at 1441 (by decide +kernel) rfl
theorem fl_nearest : Cond.fieldLink RX12 81 "LikePagesModel" (TX12 39).2.1 (TX12 39).2.2.1 ∈ gw := gw_at 1442 (by decide +kernel) rfl
theorem fl_groupOf : Cond.fieldLink RX12 84 "LikePagesModel" (TX12 40).2.1 (TX12 40).2.2.1 ∈ gw := gw_at 1443 (by decide +kernel) rfl
theorem fl_chain : Cond.fieldLink RX12 87 "LikePagesModel" (TX12 41).2.1 (TX12 41).2.2.1 ∈ gw := gw_at 1444 (by decide +kernel) rfl
theorem fl_chainSum : Cond.fieldLink RX12 410 "LikePagesModel" (TX12 42).2.1 (TX12 42).2.2.1 ∈ gw := gw_at 1445 (by decide +kernel) rfl
theorem fl_sheet : Cond.fieldLink RX12 90 "LikePagesModel" (TX12 43).2.1 (TX12 43).2.2.1 ∈ gw := gw_at 1446 (by decide +kernel) rfl
theorem fl_sheeted : Cond.fieldLink RX12 422 "LikePagesModel" (TX12 44).2.1 (TX12 44).2.2.1 ∈ gw := gw_at 1447 (by decide +kernel) rfl
theorem fl_fault : Cond.fieldLink RX12 93 "LikePagesModel" (TX12 45).2.1 (TX12 45).2.2.1 ∈ gw := gw_at 1448 (by decide +kernel) rfl
theorem fl_from : Cond.fieldLink RX12 428 "LikePagesModel" (TX12 46).2.1 (TX12 46).2.2.1 ∈ gw := gw_at 1449 (by decide +kernel) rfl
theorem fl_place : Cond.fieldLink RX12 434 "LikePagesModel" (TX12 47).2.1 (TX12 47).2.2.1 ∈ gw := gw_at 1450 (by decide +kernel) rfl
theorem fl_words : Cond.fieldLink RX12 97 "LikePagesModel" (TX12 48).2.1 (TX12 48).2.2.1 ∈ gw := gw_at 1451 (by decide +kernel) rfl
theorem fl_read : Cond.fieldLink RX12 100 "LikePagesModel" (TX12 49).2.1 (TX12 49).2.2.1 ∈ gw := gw_at 1452 (by decide +kernel) rfl
theorem fl_reads : Cond.fieldLink RX12 459 "LikePagesModel" (TX12 50).2.1 (TX12 50).2.2.1 ∈ gw := gw_at 1453 (by decide +kernel) rfl
theorem fl_replies : Cond.fieldLink RX12 103 "LikePagesModel" (TX12 51).2.1 (TX12 51).2.2.1 ∈ gw := gw_at 1454 (by decide +kernel) rfl
theorem fl_replied : Cond.fieldLink RX12 474 "LikePagesModel" (TX12 52).2.1 (TX12 52).2.2.1 ∈ gw := gw_at 1455 (by decide +kernel) rfl
/-- the reference: what its rows hold, by their numbers, and its own numbers, by the places of the fields -/
abbrev MS : Type := (Nat → Nat → Int32) × (Nat → Int32)
def m_len (j : Nat) : Nat := match j with
  | 0 => 495854
  | 1 => 495854
  | 2 => 7
  | 3 => 7
  | 4 => 42
  | 5 => 42
  | 6 => 7
  | 7 => 7
  | 8 => 40
  | 9 => 784
  | 10 => 784
  | 11 => 784
  | 12 => 784
  | 13 => 784
  | 14 => 784
  | 15 => 784
  | 16 => 784
  | 17 => 40
  | 18 => 40
  | 19 => 784
  | 20 => 784
  | 21 => 784
  | 22 => 3
  | 23 => 40
  | 24 => 40
  | 25 => 40
  | 26 => 300
  | 27 => 62
  | 28 => 300
  | 29 => 400
  | _ => 0
def m_z (j : Nat) : Bool := j == 6 || j == 7
def m_af (k : Nat) : Option Nat := match k with
  | 0 => some 0
  | 1 => some 1
  | 2 => some 2
  | 3 => some 3
  | 4 => some 4
  | 5 => some 5
  | 6 => some 6
  | 7 => some 7
  | 15 => some 8
  | 16 => some 9
  | 17 => some 10
  | 18 => some 11
  | 19 => some 12
  | 20 => some 13
  | 21 => some 14
  | 22 => some 15
  | 23 => some 16
  | 24 => some 17
  | 25 => some 18
  | 34 => some 19
  | 35 => some 20
  | 36 => some 21
  | 38 => some 22
  | 39 => some 23
  | 40 => some 24
  | 41 => some 25
  | 43 => some 26
  | 48 => some 27
  | 49 => some 28
  | 51 => some 29
  | _ => none

abbrev KMt : Type := ClassId × (Nat → Nat) × ClassId × ClassId × Nat × Nat
def KMt.o (κ : KMt) : Nat := κ.2.2.2.2.1
def m_fv (o : Nat) (F : Nat → Int32) (k : Nat) : Value := match m_af k with
  | some j => .ref (o + 1 + j)
  | none => .int (F k)
def HM (κ : KMt) (S : MS) (H : Heap) : Prop := (H.size = κ.2.2.2.2.2 ∧ (H[κ.o]?).map (·.slots.size) = some 53) ∧ t_OB κ.o κ.1 53 κ.2.1 H (m_fv κ.o S.2) ∧ ∀ j, j < 30 → H[κ.o + 1 + j]? = some (arrV (if m_z j = true then κ.2.2.2.1 else κ.2.2.1) (m_len j) (fun i => .int (S.1 j i)))
def KnM (κ : KMt) (s : State) : Prop := u_Kn s RX12 TX12 53 κ.1 κ.2.1 ∧ ArrOfT s κ.2.2.1 .int ∧ ArrOfT s κ.2.2.2.1 .boolean
def AM (κ : KMt) : Nat → Prop := fun q => κ.o ≤ q ∧ q < κ.o + 31
abbrev EM (κ : KMt) : Ev MS := (HM κ, KnM κ, fun _ => 0, fun _ => 0, AM κ)
theorem EM_ok (κ : KMt) : (EM κ).ok := fun u U h q => ⟨u_Kn_moved h q.1, arrOfT_moved h q.2.1, arrOfT_moved h q.2.2⟩
theorem EM_ob (κ : KMt) {S : MS} (s : State) (H : Heap) (hH : HM κ S H) (hk : KnM κ s) : ∃ cellB : Cell, H[κ.o]? = some cellB ∧ cellB.vm.isStatics = false ∧ s.vm.findClass RX12 = some cellB.cls := by
  obtain ⟨-, ⟨cell, h1, h2, h3, -⟩, -⟩ := hH
  exact ⟨cell, h1, by rw [h3]; rfl, by rw [h2]; exact hk.1.2.1⟩
/-- a row's place -/
def rd (S : MS) (j : Nat) (i : Int32) : Option Int32 := if ¬ (i < 0 ∨ m_len j ≤ i.toNatClampNeg) then some (S.1 j i.toNatClampNeg) else none
def up2 (A : Nat → Nat → Int32) (j i : Nat) (v : Int32) : Nat → Nat → Int32 := fun j2 i2 => if j2 = j ∧ i2 = i then v else A j2 i2
def wr (S : MS) (j : Nat) (i v : Int32) : Option MS := if ¬ (i < 0 ∨ m_len j ≤ i.toNatClampNeg) then some (up2 S.1 j i.toNatClampNeg v, S.2) else none
def pf (S : MS) (k : Nat) (v : Int32) : MS := (S.1, upd S.2 k v)
def bd2 {α β γ : Type} (o : Option (α × β)) (k : α → β → Option γ) : Option γ := match o with
  | some (a, b) => k a b
  | none => none
theorem HM.size {κ : KMt} {S : MS} {H : Heap} (h : HM κ S H) {j : Nat} (hj : j < 30) : κ.o + 1 + j < H.size := (Array.getElem?_eq_some_iff.mp (h.2.2 j hj)).1
section GM
variable {l : Launch} {κ : KMt} {cc : ByteArray} {nL : Nat} {rt : Option FieldType} {fr lo : Nat} {rv : Option Value} {x' : MS} {pc : Nat} {lv lv' : List (Nat × Value)} {st rest : List Value} {S : MS}
theorem GM.geta {i : Nat} (k j : Nat) (hk : k < 53) (hj : m_af k = some j) (hw : Cond.fieldLink RX12 i "LikePagesModel" (TX12 k).2.1 (TX12 k).2.2.1 ∈ gw) (hT : (TX12 k).1 = "LikePagesModel") (hd : decode cc pc = .ok (.getfield i, 3)) (n : Go l (EM κ) RX12 cc nL rt fr lo 0 0 rv x' (pc + 3) lv (.ref (κ.o + 1 + j) :: st) S) : Go l (EM κ) RX12 cc nL rt fr lo 0 0 rv x' pc lv (.ref κ.o :: st) S := by
  intro p e s m args below meth c C H locs ls hl hH hS
  obtain ⟨hx, hb, hml, ho, hts, hr, hlk, hkn⟩ := id C
  obtain ⟨-, ⟨cell, q1, q2, q3, q4⟩, -⟩ := id hH
  obtain ⟨hSl, hfc, kC, hkC, hkind⟩ := hkn.1
  obtain ⟨cf, kf, fi, f, hi, hsl⟩ := hSl k hk
  refine W.getf hx hb ho (hts _ hw) (by rw [← hT]; exact hi) (u_facts hfc hkC (u_lays hts m_in hk) hi).1 q1 (by rw [q3]; exact fun h => by cases h) (v := .ref (κ.o + 1 + j)) ?_ rfl rfl hd (n p e s m args below meth c C H locs ls hl hH hS)
  rw [hsl, q4 k hk]
  simp [m_fv, hj]
theorem GM.geti {i : Nat} (k : Nat) (hk : k < 53) (hj : m_af k = none) (hw : Cond.fieldLink RX12 i "LikePagesModel" (TX12 k).2.1 (TX12 k).2.2.1 ∈ gw) (hT : (TX12 k).1 = "LikePagesModel") (hd : decode cc pc = .ok (.getfield i, 3)) (n : Go l (EM κ) RX12 cc nL rt fr lo 0 0 rv x' (pc + 3) lv (.int (S.2 k) :: st) S) : Go l (EM κ) RX12 cc nL rt fr lo 0 0 rv x' pc lv (.ref κ.o :: st) S := by
  intro p e s m args below meth c C H locs ls hl hH hS
  obtain ⟨hx, hb, hml, ho, hts, hr, hlk, hkn⟩ := id C
  obtain ⟨-, ⟨cell, q1, q2, q3, q4⟩, -⟩ := id hH
  obtain ⟨hSl, hfc, kC, hkC, hkind⟩ := hkn.1
  obtain ⟨cf, kf, fi, f, hi, hsl⟩ := hSl k hk
  refine W.getf hx hb ho (hts _ hw) (by rw [← hT]; exact hi) (u_facts hfc hkC (u_lays hts m_in hk) hi).1 q1 (by rw [q3]; exact fun h => by cases h) (v := .int (S.2 k)) ?_ rfl rfl hd (n p e s m args below meth c C H locs ls hl hH hS)
  rw [hsl, q4 k hk]
  simp [m_fv, hj]
theorem m_apart {args : Array Value} {s : State} (hts : ∀ w ∈ gw, w.before args s = true) (hK : u_Kn s RX12 TX12 53 κ.1 κ.2.1) : ∀ a b, a < 53 → b < 53 → a ≠ b → κ.2.1 a ≠ κ.2.1 b := by
  intro a b ha hb hne
  obtain ⟨hS, -⟩ := hK
  obtain ⟨_, _, _, fa, hia, ea⟩ := hS a ha
  obtain ⟨_, _, _, fb, hib, eb⟩ := hS b hb
  rw [← ea, ← eb]
  refine u_apart (u_lays hts m_in ha) (u_lays hts m_in hb) hia hib ?_
  rw [(State.fieldFound?_type hia (tyX12_ok a ha)).1, (State.fieldFound?_type hib (tyX12_ok b hb)).1]
  exact nmX12 a ha b hb hne
theorem GM.puti {i : Nat} {v : Int32} (k : Nat) (hk : k < 53) (hj : m_af k = none) (hw : Cond.fieldLink RX12 i "LikePagesModel" (TX12 k).2.1 (TX12 k).2.2.1 ∈ gw) (hT : (TX12 k).1 = "LikePagesModel") (hfin : (TX12 k).2.2.2 = false) (hn : narrow (tyX12 k) (.int v) = .int v) (hfit : fits (tyX12 k) (.int v) = true) (hd : decode cc pc = .ok (.putfield i, 3)) (n : Go l (EM κ) RX12 cc nL rt fr lo 0 0 rv x' (pc + 3) lv st (pf S k v)) : Go l (EM κ) RX12 cc nL rt fr lo 0 0 rv x' pc lv (.int v :: .ref κ.o :: st) S := by
  intro p e s m args below meth c C H locs ls hl hH hS
  obtain ⟨hx, hb, hml, ho, hts, hr, hlk, hkn⟩ := id C
  obtain ⟨⟨hsz, hz53⟩, ⟨cell, q1, q2, q3, q4⟩, hA⟩ := id hH
  obtain ⟨hSl, hfc, kC, hkC, hkind⟩ := id hkn.1
  obtain ⟨cf, kf, fi, f, hi, hsl⟩ := hSl k hk
  have hap := m_apart hts hkn.1
  have hlay := hts _ (m_in _ (u_in_lay hk))
  unfold u_lay at hlay
  rw [if_neg (by rw [hfin]; decide)] at hlay
  have hst := (u_facts hfc hkC (u_lays hts m_in hk) hi).1
  have h6 := u_store hfc hkC hkind hlay hi (tyX12_ok k hk) hn hfit
  refine W.putK hx hb (f := f) ⟨ho, hts _ hw, ⟨_, _, _, by rw [← hT]; exact hi⟩, hst⟩ (by rw [q2]; exact h6) q1 q3 (by rw [hsl]; exact k2_hasslot (q4 k hk)) rfl rfl hd fun H1 e1 e2 e3 => ?_
  rw [hsl] at e1 ⊢
  refine n p e s m args below meth c C H1 _ ls hl ⟨⟨e2.trans hsz, by rw [e1]; rw [q1] at hz53; simpa [k2_slotsz] using hz53⟩, t_OB.to (V := updV (m_fv κ.o S.2) k (.int v)) ⟨_, e1, q2, q3, t_set q4 hap hk _⟩ (fun j _ => ?_), fun j hj2 => ?_⟩ (hS.put e2 e3 ⟨Nat.le_refl _, Nat.lt_add_of_pos_right (by decide)⟩)
  · by_cases hjk : j = k
    · subst hjk
      simp [updV, m_fv, hj, pf, upd]
    · simp [updV, m_fv, hjk, pf, upd]
  · rw [e3 _ (by show κ.o + 1 + j ≠ κ.o; omega)]
    exact hA j hj2
theorem GM.iald {Y : Type} {Z : Y} {i : Int32} {K : Int32 → Option Y} (j : Nat) (hj : j < 30) (hz : m_z j = false) (hd : decode cc pc = .ok (.iaload, 1)) (h : (rd S j i).bind K = some Z) (n : ∀ v : Int32, K v = some Z → Go l (EM κ) RX12 cc nL rt fr lo 0 0 rv x' (pc + 1) lv (.int v :: st) S) : Go l (EM κ) RX12 cc nL rt fr lo 0 0 rv x' pc lv (.int i :: .ref (κ.o + 1 + j) :: st) S := by
  intro p e s m args below meth c C H locs ls hl hH hS
  obtain ⟨hx, hb, hml, ho, hts, hr, hlk, hkn⟩ := id C
  unfold rd at h
  split at h
  · rename_i hin
    have hlt : i.toNatClampNeg < m_len j := Nat.not_le.mp fun q => hin (Or.inr q)
    have hc := hH.2.2 j hj
    rw [if_neg (by rw [hz]; decide)] at hc
    exact W.iald (v := .int (S.1 j i.toNatClampNeg)) hx hb hc (hkn.2.1 _ _) (fun q => by cases q) (by rw [arrV_size]; exact hin) (by rw [arrV_read _ _ hlt]) rfl rfl hd (n _ h p e s m args below meth c C H locs ls hl hH hS)
  · cases h
theorem GM.zald {Y : Type} {Z : Y} {i : Int32} {K : Int32 → Option Y} (j : Nat) (hj : j < 30) (hz : m_z j = true) (hd : decode cc pc = .ok (.baload, 1)) (h : (rd S j i).bind K = some Z) (n : ∀ v : Int32, K v = some Z → Go l (EM κ) RX12 cc nL rt fr lo 0 0 rv x' (pc + 1) lv (.int v :: st) S) : Go l (EM κ) RX12 cc nL rt fr lo 0 0 rv x' pc lv (.int i :: .ref (κ.o + 1 + j) :: st) S := by
  intro p e s m args below meth c C H locs ls hl hH hS
  obtain ⟨hx, hb, hml, ho, hts, hr, hlk, hkn⟩ := id C
  unfold rd at h
  split at h
  · rename_i hin
    have hlt : i.toNatClampNeg < m_len j := Nat.not_le.mp fun q => hin (Or.inr q)
    have hc := hH.2.2 j hj
    rw [if_pos hz] at hc
    exact W.zald (v := .int (S.1 j i.toNatClampNeg)) hx hb hc (hkn.2.2 _ _) (fun q => by cases q) (by rw [arrV_size]; exact hin) (by rw [arrV_read _ _ hlt]) rfl rfl hd (n _ h p e s m args below meth c C H locs ls hl hH hS)
  · cases h
theorem HM.set {κ : KMt} {S : MS} {H H1 : Heap} {j k : Nat} {v : Int32} (hH : HM κ S H) (e : H1[κ.o + 1 + j]? = some ((arrV (if m_z j = true then κ.2.2.2.1 else κ.2.2.1) (m_len j) (fun i => .int (S.1 j i))).setSlot k (.int v))) (z : H1.size = H.size) (oq : ∀ q, q ≠ κ.o + 1 + j → H1[q]? = H[q]?) : HM κ (up2 S.1 j k v, S.2) H1 := by
  refine ⟨⟨z.trans hH.1.1, by rw [oq _ (by show κ.o ≠ κ.o + 1 + j; omega)]; exact hH.1.2⟩, hH.2.1.kept (oq _ (by show κ.o ≠ κ.o + 1 + j; omega)), fun j2 h2 => ?_⟩
  by_cases hjj : j2 = j
  · subst hjj
    rw [e, arrV_store]
    congr 2
    funext q
    by_cases hq : q = k
    · subst hq
      simp [updV, up2]
    · simp [updV, up2, hq]
  · rw [oq _ (by omega)]
    have := hH.2.2 j2 h2
    simp only [up2, hjj, false_and, if_false]
    exact this
theorem GM.iast {Y : Type} {Z : Y} {i v : Int32} {K : MS → Option Y} (j : Nat) (hj : j < 30) (hz : m_z j = false) (hd : decode cc pc = .ok (.iastore, 1)) (h : (wr S j i v).bind K = some Z) (n : ∀ S1 : MS, K S1 = some Z → Go l (EM κ) RX12 cc nL rt fr lo 0 0 rv x' (pc + 1) lv st S1) : Go l (EM κ) RX12 cc nL rt fr lo 0 0 rv x' pc lv (.int v :: .int i :: .ref (κ.o + 1 + j) :: st) S := by
  intro p e s m args below meth c C H locs ls hl hH hS
  obtain ⟨hx, hb, hml, ho, hts, hr, hlk, hkn⟩ := id C
  unfold wr at h
  split at h
  · rename_i hin
    have hc := hH.2.2 j hj
    have hc2 := hc
    rw [if_neg (by rw [hz]; decide)] at hc2
    refine W.iast hx hb hc (by rw [if_neg (by rw [hz]; decide)]; exact hkn.2.1 _ _) (fun q => by cases q) (by rw [arrV_size]; exact hin) rfl rfl hd fun H1 e1 z oq => ?_
    exact n _ h p e s m args below meth c C H1 _ ls hl (hH.set e1 z oq) (hS.put z oq ⟨by show κ.o ≤ κ.o + 1 + j; omega, by show κ.o + 1 + j < κ.o + 31; omega⟩)
  · cases h
theorem GM.zast {Y : Type} {Z : Y} {i v : Int32} {K : MS → Option Y} (j : Nat) (hj : j < 30) (hz : m_z j = true) (hd : decode cc pc = .ok (.bastore, 1)) (h : (wr S j i (vp_nar .boolean v)).bind K = some Z) (n : ∀ S1 : MS, K S1 = some Z → Go l (EM κ) RX12 cc nL rt fr lo 0 0 rv x' (pc + 1) lv st S1) : Go l (EM κ) RX12 cc nL rt fr lo 0 0 rv x' pc lv (.int v :: .int i :: .ref (κ.o + 1 + j) :: st) S := by
  intro p e s m args below meth c C H locs ls hl hH hS
  obtain ⟨hx, hb, hml, ho, hts, hr, hlk, hkn⟩ := id C
  unfold wr at h
  split at h
  · rename_i hin
    have hc := hH.2.2 j hj
    refine W.zast hx hb hc (by rw [if_pos hz]; exact hkn.2.2 _ _) (fun q => by cases q) (by rw [arrV_size]; exact hin) rfl rfl hd fun H1 e1 z oq => ?_
    exact n _ h p e s m args below meth c C H1 _ ls hl (hH.set e1 z oq) (hS.put z oq ⟨by show κ.o ≤ κ.o + 1 + j; omega, by show κ.o + 1 + j < κ.o + 31; omega⟩)
  · cases h
/-- a row by a number that isn't written out -/
def rdx (S : MS) (j : Nat) (i : Int32) : Option Int32 := if j < 30 ∧ m_z j = false then rd S j i else none
def wrx (S : MS) (j : Nat) (i v : Int32) : Option MS := if j < 30 ∧ m_z j = false then wr S j i v else none
theorem GM.ialdx {Y : Type} {Z : Y} {i : Int32} {j : Nat} {K : Int32 → Option Y} (hd : decode cc pc = .ok (.iaload, 1)) (h : (rdx S j i).bind K = some Z) (n : ∀ v : Int32, K v = some Z → Go l (EM κ) RX12 cc nL rt fr lo 0 0 rv x' (pc + 1) lv (.int v :: st) S) : Go l (EM κ) RX12 cc nL rt fr lo 0 0 rv x' pc lv (.int i :: .ref (κ.o + 1 + j) :: st) S := by
  unfold rdx at h
  split at h
  · rename_i q
    exact GM.iald j q.1 q.2 hd h n
  · cases h
theorem GM.iastx {Y : Type} {Z : Y} {i v : Int32} {j : Nat} {K : MS → Option Y} (hd : decode cc pc = .ok (.iastore, 1)) (h : (wrx S j i v).bind K = some Z) (n : ∀ S1 : MS, K S1 = some Z → Go l (EM κ) RX12 cc nL rt fr lo 0 0 rv x' (pc + 1) lv st S1) : Go l (EM κ) RX12 cc nL rt fr lo 0 0 rv x' pc lv (.int v :: .int i :: .ref (κ.o + 1 + j) :: st) S := by
  unfold wrx at h
  split at h
  · rename_i q
    exact GM.iast j q.1 q.2 hd h n
  · cases h
abbrev MtM (l : Launch) (κ : KMt) (y : MethodName) (cc : ByteArray) (nL : Nat) (rt : Option FieldType) (fr lo : Nat) (av : List Value) (x : MS) (rv : Option Value) (x' : MS) : Prop := Mt l (EM κ) y cc nL rt fr lo av x rv x'
abbrev zz : 0 ≤ 0 ∧ 0 ≤ 0 ∧ 0 ≤ 0 ∧ 0 ≤ 0 := ⟨Nat.le_refl 0, Nat.le_refl 0, Nat.le_refl 0, Nat.le_refl 0⟩
section CALL
variable {Y : Type} {Z : Y} {i n : Nat} {y : MethodName} {bytes : ByteArray} {maxL fr1 lo1 : Nat} {ret : Option FieldType}
/-- calls of the own methods: v virtual, s static; r: an int, the world stays; w: an int and a world; u: a world -/
theorem GM.callvr {f : Option Int32} {K : Int32 → Option Y} (As : List Value) (hd : decode cc pc = .ok (.invokevirtual i, 3)) (hK : Ks RX12 i y bytes maxL ret n) (hI : Cond.instanceMethod y ∈ gw ∧ Cond.selects y.cls y y ∈ gw ∧ y.cls = RX12) (hM : ∀ r, f = some r → MtM l κ y bytes maxL ret fr1 lo1 (.ref κ.o :: As) S (some (.int r)) S)
    (hs : st = As.reverse ++ .ref κ.o :: rest) (hn : As.length = n) (hf : fr1 + 1 ≤ fr) (hlo : 8 + (maxL + 11) + lo1 ≤ lo) (hc : (rest.map fun v => v.category).sum ≤ 8) (h : f.bind K = some Z)
    (k : ∀ r, K r = some Z → Go l (EM κ) RX12 cc nL rt fr lo 0 0 rv x' (pc + 3) lv (.int r :: rest) S) : Go l (EM κ) RX12 cc nL rt fr lo 0 0 rv x' pc lv st S := by
  obtain ⟨r, hr, h⟩ := Option.bind_eq_some_iff.mp h
  exact Go.callv As (EM_ok κ) hd hK hI.1 hI.2.1 (hM r hr) (by rw [hI.2.2]; exact fun s H a b => EM_ob κ s H a b) hs hn hf hlo hc zz ⟨Nat.le_refl 0, Nat.le_refl 0⟩ (k r h)
theorem GM.callvw {f : Option (Int32 × MS)} {K : Int32 → MS → Option Y} (As : List Value) (hd : decode cc pc = .ok (.invokevirtual i, 3)) (hK : Ks RX12 i y bytes maxL ret n) (hI : Cond.instanceMethod y ∈ gw ∧ Cond.selects y.cls y y ∈ gw ∧ y.cls = RX12) (hM : ∀ q, f = some q → MtM l κ y bytes maxL ret fr1 lo1 (.ref κ.o :: As) S (some (.int q.1)) q.2)
    (hs : st = As.reverse ++ .ref κ.o :: rest) (hn : As.length = n) (hf : fr1 + 1 ≤ fr) (hlo : 8 + (maxL + 11) + lo1 ≤ lo) (hc : (rest.map fun v => v.category).sum ≤ 8) (h : bd2 f K = some Z)
    (k : ∀ r S1, K r S1 = some Z → Go l (EM κ) RX12 cc nL rt fr lo 0 0 rv x' (pc + 3) lv (.int r :: rest) S1) : Go l (EM κ) RX12 cc nL rt fr lo 0 0 rv x' pc lv st S := by
  cases hq : f with
  | none => rw [hq] at h; cases h
  | some q =>
    rw [hq] at h
    exact Go.callv As (EM_ok κ) hd hK hI.1 hI.2.1 (hM q hq) (by rw [hI.2.2]; exact fun s H a b => EM_ob κ s H a b) hs hn hf hlo hc zz ⟨Nat.le_refl 0, Nat.le_refl 0⟩ (k q.1 q.2 h)
theorem GM.callvu {f : Option MS} {K : MS → Option Y} (As : List Value) (hd : decode cc pc = .ok (.invokevirtual i, 3)) (hK : Ks RX12 i y bytes maxL ret n) (hI : Cond.instanceMethod y ∈ gw ∧ Cond.selects y.cls y y ∈ gw ∧ y.cls = RX12) (hM : ∀ q, f = some q → MtM l κ y bytes maxL ret fr1 lo1 (.ref κ.o :: As) S none q)
    (hs : st = As.reverse ++ .ref κ.o :: rest) (hn : As.length = n) (hf : fr1 + 1 ≤ fr) (hlo : 8 + (maxL + 11) + lo1 ≤ lo) (hc : (rest.map fun v => v.category).sum ≤ 8) (h : f.bind K = some Z)
    (k : ∀ S1, K S1 = some Z → Go l (EM κ) RX12 cc nL rt fr lo 0 0 rv x' (pc + 3) lv rest S1) : Go l (EM κ) RX12 cc nL rt fr lo 0 0 rv x' pc lv st S := by
  obtain ⟨q, hq, h⟩ := Option.bind_eq_some_iff.mp h
  exact Go.callv As (EM_ok κ) hd hK hI.1 hI.2.1 (hM q hq) (by rw [hI.2.2]; exact fun s H a b => EM_ob κ s H a b) hs hn hf hlo hc zz ⟨Nat.le_refl 0, Nat.le_refl 0⟩ (k q h)
theorem GM.callsr {f : Option Int32} {K : Int32 → Option Y} (As : List Value) (hd : decode cc pc = .ok (.invokestatic i, 3)) (hK : Ks RX12 i y bytes maxL ret n) (hI : Cond.static y ∈ gw) (hM : ∀ r, f = some r → MtM l κ y bytes maxL ret fr1 lo1 As S (some (.int r)) S)
    (hs : st = As.reverse ++ rest) (hn : As.length = n) (hf : fr1 + 1 ≤ fr) (hlo : 8 + (maxL + 11) + lo1 ≤ lo) (hc : (rest.map fun v => v.category).sum ≤ 8) (h : f.bind K = some Z)
    (k : ∀ r, K r = some Z → Go l (EM κ) RX12 cc nL rt fr lo 0 0 rv x' (pc + 3) lv (.int r :: rest) S) : Go l (EM κ) RX12 cc nL rt fr lo 0 0 rv x' pc lv st S := by
  obtain ⟨r, hr, h⟩ := Option.bind_eq_some_iff.mp h
  exact Go.calls As (EM_ok κ) hd hK hI (hM r hr) hs hn hf hlo hc zz ⟨Nat.le_refl 0, Nat.le_refl 0⟩ (k r h)
theorem GM.callsu {f : Option MS} {K : MS → Option Y} (As : List Value) (hd : decode cc pc = .ok (.invokestatic i, 3)) (hK : Ks RX12 i y bytes maxL ret n) (hI : Cond.static y ∈ gw) (hM : ∀ q, f = some q → MtM l κ y bytes maxL ret fr1 lo1 As S none q)
    (hs : st = As.reverse ++ rest) (hn : As.length = n) (hf : fr1 + 1 ≤ fr) (hlo : 8 + (maxL + 11) + lo1 ≤ lo) (hc : (rest.map fun v => v.category).sum ≤ 8) (h : f.bind K = some Z)
    (k : ∀ S1, K S1 = some Z → Go l (EM κ) RX12 cc nL rt fr lo 0 0 rv x' (pc + 3) lv rest S1) : Go l (EM κ) RX12 cc nL rt fr lo 0 0 rv x' pc lv st S := by
  obtain ⟨q, hq, h⟩ := Option.bind_eq_some_iff.mp h
  exact Go.calls As (EM_ok κ) hd hK hI (hM q hq) hs hn hf hlo hc zz ⟨Nat.le_refl 0, Nat.le_refl 0⟩ (k q h)
end CALL
/-- values of one word each -/
def cat1 : List Value → Prop
  | [] => True
  | v :: t => v.category = 1 ∧ cat1 t
theorem cat1_args {av : List Value} (h : cat1 av) : ∀ i, ∀ q ∈ lv_args i av, q.2.category = 1 := by
  induction av with
  | nil => intro i q hq; simp [lv_args] at hq
  | cons v t ih =>
    intro i q hq
    unfold lv_args at hq
    rcases List.mem_cons.mp hq with e | hq
    · rw [e]; exact h.1
    · exact ih h.2 _ q hq
theorem MtM.of {y : MethodName} {av : List Value} (hy : plainName y.cls = true) (hown : y.cls = RX12) (hn : (lg_sl av).length ≤ nL) (hc : cat1 av) (h : Go l (EM κ) RX12 cc nL rt fr lo 0 0 rv x' 0 (lv_args 0 av) [] S) : MtM l κ y cc nL rt fr lo av S rv x' :=
  Mt.of hy hn (cat1_args hc 0) (by rw [hown]; exact h)
theorem sw_out {a : Int32} (lo2 : Int) (n : Nat) (hn : -2147483648 ≤ lo2 ∧ lo2 + n ≤ 2147483647) (h : ∀ k : Nat, k < n → ¬ a = Int32.ofInt (lo2 + k)) (hi : Int) (hhi : hi = lo2 + n - 1) : a.toInt < lo2 ∨ hi < a.toInt := by
  subst hhi
  by_cases h1 : a.toInt < lo2
  · exact Or.inl h1
  · by_cases h2 : lo2 + n - 1 < a.toInt
    · exact Or.inr h2
    · exfalso
      refine h (a.toInt - lo2).toNat (by omega) ?_
      rw [show lo2 + ((a.toInt - lo2).toNat : Int) = a.toInt by omega]
      exact (Int32.ofInt_toInt a).symm
end GM

