def layX0 : List Nat := [524, 526, 528, 530, 532, 534, 536, 538, 540, 542]
theorem layX0_ok : ∀ k, k < 10 → tables_1[layX0.getD k 0]? = some (u_lay RX0 TX0 k) ∧ goodWord (u_lay RX0 TX0 k) = true := by decide +kernel
theorem inX0 : ∀ w ∈ u_ws RX0 TX0 10, w ∈ gw := by
  intro w hw
  obtain ⟨k, hk, rfl⟩ := List.mem_map.mp hw
  have h := layX0_ok k (List.mem_range.mp hk)
  exact gw_at _ h.1 h.2
def layX1 : List Nat := [305, 307, 309, 311, 313, 315]
theorem layX1_ok : ∀ k, k < 6 → tables_1[layX1.getD k 0]? = some (u_lay RX1 TX1 k) ∧ goodWord (u_lay RX1 TX1 k) = true := by decide +kernel
theorem inX1 : ∀ w ∈ u_ws RX1 TX1 6, w ∈ gw := by
  intro w hw
  obtain ⟨k, hk, rfl⟩ := List.mem_map.mp hw
  have h := layX1_ok k (List.mem_range.mp hk)
  exact gw_at _ h.1 h.2
def layX2 : List Nat := [281, 283, 285, 287]
theorem layX2_ok : ∀ k, k < 4 → tables_1[layX2.getD k 0]? = some (u_lay RX2 TX2 k) ∧ goodWord (u_lay RX2 TX2 k) = true := by decide +kernel
theorem inX2 : ∀ w ∈ u_ws RX2 TX2 4, w ∈ gw := by
  intro w hw
  obtain ⟨k, hk, rfl⟩ := List.mem_map.mp hw
  have h := layX2_ok k (List.mem_range.mp hk)
  exact gw_at _ h.1 h.2
def layX3 : List Nat := [118, 120, 122, 124, 126, 128, 130, 132, 134, 136, 138, 140, 142, 144]
theorem layX3_ok : ∀ k, k < 14 → tables_1[layX3.getD k 0]? = some (u_lay RX3 TX3 k) ∧ goodWord (u_lay RX3 TX3 k) = true := by decide +kernel
theorem inX3 : ∀ w ∈ u_ws RX3 TX3 14, w ∈ gw := by
  intro w hw
  obtain ⟨k, hk, rfl⟩ := List.mem_map.mp hw
  have h := layX3_ok k (List.mem_range.mp hk)
  exact gw_at _ h.1 h.2
def layX4 : List Nat := [493, 495, 497, 499]
theorem layX4_ok : ∀ k, k < 4 → tables_1[layX4.getD k 0]? = some (u_lay RX4 TX4 k) ∧ goodWord (u_lay RX4 TX4 k) = true := by decide +kernel
theorem inX4 : ∀ w ∈ u_ws RX4 TX4 4, w ∈ gw := by
  intro w hw
  obtain ⟨k, hk, rfl⟩ := List.mem_map.mp hw
  have h := layX4_ok k (List.mem_range.mp hk)
  exact gw_at _ h.1 h.2
def layX5 : List Nat := [555, 557]
theorem layX5_ok : ∀ k, k < 2 → tables_1[layX5.getD k 0]? = some (u_lay RX5 TX5 k) ∧ goodWord (u_lay RX5 TX5 k) = true := by decide +kernel
theorem inX5 : ∀ w ∈ u_ws RX5 TX5 2, w ∈ gw := by
  intro w hw
  obtain ⟨k, hk, rfl⟩ := List.mem_map.mp hw
  have h := layX5_ok k (List.mem_range.mp hk)
  exact gw_at _ h.1 h.2
def layX6 : List Nat := [404, 406, 408, 410, 412, 414, 416, 418, 420, 422, 424, 426, 428, 430, 432, 434, 436, 438]
theorem layX6_ok : ∀ k, k < 18 → tables_1[layX6.getD k 0]? = some (u_lay RX6 TX6 k) ∧ goodWord (u_lay RX6 TX6 k) = true := by decide +kernel
theorem inX6 : ∀ w ∈ u_ws RX6 TX6 18, w ∈ gw := by
  intro w hw
  obtain ⟨k, hk, rfl⟩ := List.mem_map.mp hw
  have h := layX6_ok k (List.mem_range.mp hk)
  exact gw_at _ h.1 h.2
def layX7 : List Nat := [244, 246, 248, 250, 252, 254, 256, 258, 260, 262, 264, 266, 268]
theorem layX7_ok : ∀ k, k < 13 → tables_1[layX7.getD k 0]? = some (u_lay RX7 TX7 k) ∧ goodWord (u_lay RX7 TX7 k) = true := by decide +kernel
theorem inX7 : ∀ w ∈ u_ws RX7 TX7 13, w ∈ gw := by
  intro w hw
  obtain ⟨k, hk, rfl⟩ := List.mem_map.mp hw
  have h := layX7_ok k (List.mem_range.mp hk)
  exact gw_at _ h.1 h.2
def layX8 : List Nat := [460, 462, 464, 466, 468, 470, 472, 474, 476]
theorem layX8_ok : ∀ k, k < 9 → tables_1[layX8.getD k 0]? = some (u_lay RX8 TX8 k) ∧ goodWord (u_lay RX8 TX8 k) = true := by decide +kernel
theorem inX8 : ∀ w ∈ u_ws RX8 TX8 9, w ∈ gw := by
  intro w hw
  obtain ⟨k, hk, rfl⟩ := List.mem_map.mp hw
  have h := layX8_ok k (List.mem_range.mp hk)
  exact gw_at _ h.1 h.2
def layX9 : List Nat := [334, 336, 338, 340, 342, 344, 346, 348, 350, 352]
theorem layX9_ok : ∀ k, k < 10 → tables_1[layX9.getD k 0]? = some (u_lay RX9 TX9 k) ∧ goodWord (u_lay RX9 TX9 k) = true := by decide +kernel
theorem inX9 : ∀ w ∈ u_ws RX9 TX9 10, w ∈ gw := by
  intro w hw
  obtain ⟨k, hk, rfl⟩ := List.mem_map.mp hw
  have h := layX9_ok k (List.mem_range.mp hk)
  exact gw_at _ h.1 h.2
def layX10 : List Nat := [367, 369, 371]
theorem layX10_ok : ∀ k, k < 3 → tables_1[layX10.getD k 0]? = some (u_lay RX10 TX10 k) ∧ goodWord (u_lay RX10 TX10 k) = true := by decide +kernel
theorem inX10 : ∀ w ∈ u_ws RX10 TX10 3, w ∈ gw := by
  intro w hw
  obtain ⟨k, hk, rfl⟩ := List.mem_map.mp hw
  have h := layX10_ok k (List.mem_range.mp hk)
  exact gw_at _ h.1 h.2
def layX11 : List Nat := [570, 572, 574, 576, 578, 580, 582, 584, 586, 588]
theorem layX11_ok : ∀ k, k < 10 → tables_1[layX11.getD k 0]? = some (u_lay RX11 TX11 k) ∧ goodWord (u_lay RX11 TX11 k) = true := by decide +kernel
theorem inX11 : ∀ w ∈ u_ws RX11 TX11 10, w ∈ gw := by
  intro w hw
  obtain ⟨k, hk, rfl⟩ := List.mem_map.mp hw
  have h := layX11_ok k (List.mem_range.mp hk)
  exact gw_at _ h.1 h.2
def layJx4a65c : List Nat := [65, 61, 63]
theorem layJx4a65c_ok : ∀ k, k < 3 → tables_1[layJx4a65c.getD k 0]? = some (u_lay RJx4a65c TJx4a65c k) ∧ goodWord (u_lay RJx4a65c TJx4a65c k) = true := by decide +kernel
theorem inJx4a65c : ∀ w ∈ u_ws RJx4a65c TJx4a65c 3, w ∈ gw := by
  intro w hw
  obtain ⟨k, hk, rfl⟩ := List.mem_map.mp hw
  have h := layJx4a65c_ok k (List.mem_range.mp hk)
  exact gw_at _ h.1 h.2
theorem c_in : ∀ (c : Nat) (r : vw_C), clsC[c]? = some r → ∀ w ∈ u_ws r.1 r.2.1 r.2.2, w ∈ gw
  | 0, r, h => by cases h; exact inX0
  | 1, r, h => by cases h; exact inX1
  | 2, r, h => by cases h; exact inX2
  | 3, r, h => by cases h; exact inX3
  | 4, r, h => by cases h; exact inX4
  | 5, r, h => by cases h; exact inX5
  | 6, r, h => by cases h; exact inX6
  | 7, r, h => by cases h; exact inX7
  | 8, r, h => by cases h; exact inX8
  | 9, r, h => by cases h; exact inX9
  | 10, r, h => by cases h; exact inX10
  | 11, r, h => by cases h; exact inX11
  | 12, r, h => by cases h; exact inJx4a65c
  | c + 13, r, h => by simp [clsC] at h
def c_ty (c : Nat) : Nat → FieldType := match c with
  | 0 => tyX0
  | 1 => tyX1
  | 2 => tyX2
  | 3 => tyX3
  | 4 => tyX4
  | 5 => tyX5
  | 6 => tyX6
  | 7 => tyX7
  | 8 => tyX8
  | 9 => tyX9
  | 10 => tyX10
  | 11 => tyX11
  | 12 => tyJx4a65c
  | _ => tyX0
theorem c_ty_ok : ∀ (c : Nat) (r : vw_C), clsC[c]? = some r → ∀ k, k < r.2.2 → parseFieldDescriptor (r.2.1 k).2.2.1 = some (c_ty c k)
  | 0, r, h => by cases h; exact tyX0_ok
  | 1, r, h => by cases h; exact tyX1_ok
  | 2, r, h => by cases h; exact tyX2_ok
  | 3, r, h => by cases h; exact tyX3_ok
  | 4, r, h => by cases h; exact tyX4_ok
  | 5, r, h => by cases h; exact tyX5_ok
  | 6, r, h => by cases h; exact tyX6_ok
  | 7, r, h => by cases h; exact tyX7_ok
  | 8, r, h => by cases h; exact tyX8_ok
  | 9, r, h => by cases h; exact tyX9_ok
  | 10, r, h => by cases h; exact tyX10_ok
  | 11, r, h => by cases h; exact tyX11_ok
  | 12, r, h => by cases h; exact tyJx4a65c_ok
  | c + 13, r, h => by simp [clsC] at h
theorem c_nm : ∀ (c : Nat) (r : vw_C), clsC[c]? = some r → ∀ a, a < r.2.2 → ∀ b, b < r.2.2 → a ≠ b → (r.2.1 a).2.1 ≠ (r.2.1 b).2.1
  | 0, r, h => by cases h; exact nmX0
  | 1, r, h => by cases h; exact nmX1
  | 2, r, h => by cases h; exact nmX2
  | 3, r, h => by cases h; exact nmX3
  | 4, r, h => by cases h; exact nmX4
  | 5, r, h => by cases h; exact nmX5
  | 6, r, h => by cases h; exact nmX6
  | 7, r, h => by cases h; exact nmX7
  | 8, r, h => by cases h; exact nmX8
  | 9, r, h => by cases h; exact nmX9
  | 10, r, h => by cases h; exact nmX10
  | 11, r, h => by cases h; exact nmX11
  | 12, r, h => by cases h; exact nmJx4a65c
  | c + 13, r, h => by simp [clsC] at h
def c_nf : List Nat := [10, 6, 4, 14, 4, 2, 18, 13, 9, 10, 3, 10, 3]
theorem c_def : ∀ c, c < 13 → ∀ k, k < c_nf.getD c 0 → defaultValue (c_ty c k) = (if 100 * c + k ∈ c_refs then Value.null else Value.int 0) := by decide +kernel
theorem c_nf_ok : ∀ (c : Nat) (r : vw_C), clsC[c]? = some r → c < 13 ∧ r.2.2 = c_nf.getD c 0
  | 0, r, h => by cases h; exact ⟨by decide, rfl⟩
  | 1, r, h => by cases h; exact ⟨by decide, rfl⟩
  | 2, r, h => by cases h; exact ⟨by decide, rfl⟩
  | 3, r, h => by cases h; exact ⟨by decide, rfl⟩
  | 4, r, h => by cases h; exact ⟨by decide, rfl⟩
  | 5, r, h => by cases h; exact ⟨by decide, rfl⟩
  | 6, r, h => by cases h; exact ⟨by decide, rfl⟩
  | 7, r, h => by cases h; exact ⟨by decide, rfl⟩
  | 8, r, h => by cases h; exact ⟨by decide, rfl⟩
  | 9, r, h => by cases h; exact ⟨by decide, rfl⟩
  | 10, r, h => by cases h; exact ⟨by decide, rfl⟩
  | 11, r, h => by cases h; exact ⟨by decide, rfl⟩
  | 12, r, h => by cases h; exact ⟨by decide, rfl⟩
  | c + 13, r, h => by simp [clsC] at h

def sLen : List Nat := [3, 4, 4, 6, 7, 3, 3, 4, 4, 5, 3, 4]
def sByt : List (List Int32) := [[112, 117, 116], [100, 114, 111, 112], [110, 101, 97, 114], [119, 105, 116, 104, 105, 110], [109, 101, 97, 115, 117, 114, 101], [99, 97, 112], [102, 97, 114], [115, 105, 122, 101], [101, 100, 105, 116], [112, 108, 97, 99, 101], [115, 117, 109], [104, 101, 97, 100]]
def sIdx : List Nat := [63, 69, 71, 73, 75, 77, 79, 81, 83, 85, 87, 89]
def sTxt : List String := ["put", "drop", "near", "within", "measure", "cap", "far", "size", "edit", "place", "sum", "head"]
/-- words that last too, though not by 'goodWord' -/
def NW (s : State) : Prop := va_Nw (.castable RX3 "java/lang/Object") s ∧ va_Nw (.castable RX7 "java/lang/Object") s ∧ va_AO "java/lang/Object" s ∧ va_Dc s ∧
  va_Nw (.methodLinkNest RX7 43 yX3_init RX11) s ∧ va_Nw (.methodLinkNest RX11 18 yX2_init RX11) s ∧ va_Nw (.methodLinkNest RX11 66 yX4_init RX11) s ∧ va_Nw (.methodLinkNest RX11 73 yX0_init RX11) s ∧ va_Nw (.methodLinkNest RX11 80 yX5_init RX11) s
theorem NW.warm {s U : State} (hW : s.WarmedH U.vm) (h : NW s) : NW U := by
  obtain ⟨h1, h2, h3, h4, h5, h6, h7, h8, h9⟩ := h
  exact ⟨h1.warmC hW, h2.warmC hW, h3.moved hW.alike, h4.moved hW.alike, h5.warmM hW, h6.warmM hW, h7.warmM hW, h8.warmM hW, h9.warmM hW⟩
theorem NW.same {s U : State} (hv : s.vm = U.vm) (h : NW s) : NW U := by
  obtain ⟨h1, h2, h3, h4, h5, h6, h7, h8, h9⟩ := h
  have al : s.vm.Alike U.vm := by rw [← hv]; exact Vm.Alike.refl _
  exact ⟨h1.same rfl hv, h2.same rfl hv, h3.moved al, h4.moved al, h5.same rfl hv, h6.same rfl hv, h7.same rfl hv, h8.same rfl hv, h9.same rfl hv⟩
def KC (G : Gt) (s : State) : Prop := (∀ (c : Nat) (q : vw_C), clsC[c]? = some q → u_Kn s q.1 q.2.1 q.2.2 (G.D.1 c) (G.D.2 c)) ∧ (ArrOfT s (G.cA 1) .int ∧ va_RA s (G.cA 1) .int) ∧ (ArrOfT s (G.cA 2) .boolean ∧ va_RA s (G.cA 2) .boolean) ∧ (ArrOfT s (G.cA 3) (.object "java/lang/Object") ∧ va_RA s (G.cA 3) (.object "java/lang/Object"))
theorem KC.moved {G : Gt} {u U : State} (h : u.vm.Alike U.vm) (q : KC G u) : KC G U := ⟨fun c r hr => u_Kn_moved h (q.1 c r hr), ⟨arrOfT_moved h q.2.1.1, q.2.1.2.moved h⟩, ⟨arrOfT_moved h q.2.2.1.1, q.2.2.1.2.moved h⟩, ⟨arrOfT_moved h q.2.2.2.1, q.2.2.2.2.moved h⟩⟩
/-- what is old and only read: the empty row, the class object, texts -/
def OC (G : Gt) (U : State) : Prop :=
  va_Z "java/util/ArrayList" "DEFAULTCAPACITY_EMPTY_ELEMENTDATA" "[Ljava/lang/Object;" (.ref G.e0) (AC G) U U.heap ∧ (va_Mi "[Ljava/lang/Object;" G.mi U ∧ va_T (.object "java/lang/Object") G.e0 0 (fun _ => .null) (AC G) U U.heap) ∧ va_Z "java/lang/String" "COMPACT_STRINGS" "Z" (.int 1) (AC G) U U.heap ∧
  va_Zq "jdk/internal/util/Preconditions" "SIOOBE_FORMATTER" "Ljava/util/function/BiFunction;" (AC G) U U.heap ∧
  vk_S 12 sLen sByt G.adK G.adV (AC G) U U.heap ∧ NW U ∧ ∀ i, i < 12 → vk_R "LikePages$Commands" (sIdx.getD i 0) (sTxt.getD i "") (G.adK i) U
theorem OC.go {G : Gt} {s U : State} (h : OC G s) (hW : s.WarmedH U.vm) (hq : ∀ a : Nat, a < s.heap.size → ¬ AC G a → U.heap[a]? = s.heap[a]?) : OC G U := by
  obtain ⟨h1, h2, h3, h4, h5, h7, h6⟩ := h
  exact ⟨(h1.kept hq).moved hW.alike, ⟨h2.1.moved hW.alike, (h2.2.kept hq).moved hW.alike⟩, (h3.kept hq).moved hW.alike, (h4.kept hq).moved hW.alike, (h5.kept hq).moved hW.alike, h7.warm hW, fun i hi => (h6 i hi).warm hW⟩
theorem OC.calling {G : Gt} {U : State} (h : OC G U) (g : JFrame) (mk : MethodId) (a : Array Value) : OC G (U.calling g mk a) := by
  obtain ⟨h1, h2, h3, h4, h5, h7, h6⟩ := h
  have hv : (U.calling g mk a).vm = U.vm := rfl
  have al : U.vm.Alike (U.calling g mk a).vm := Vm.Alike.refl U.vm
  exact ⟨va_Z.moved al h1, ⟨h2.1.moved al, va_T.moved al h2.2⟩, va_Z.moved al h3, va_Zq.moved al h4, vk_S.moved al h5, h7.same hv.symm, fun i hi => (h6 i hi).same hv⟩
def CxC (G : Gt) (own mn : String) (cc : ByteArray) (nL : Nat) (rt : Option FieldType) (n0 u0 : Nat) (p : Program) (s : State) (m : MethodId) (args : Array Value) (meth : Method) (c : Code) : Prop :=
  p.tables.exec = Jvm.exec ∧ c.code = cc ∧ c.maxLocals = nL ∧ s.vm.findClass own = some m.cls ∧ (∀ w ∈ gw, w.before args s = true) ∧ meth.sig.returnType = rt ∧ meth.locks = false ∧ (KC G s ∧ OC G s ∧ (s.heap.size = G.base + (n0 - 2) ∧ 2 ≤ n0 ∧ ssum s.heap G.base = u0) ∧ meth.name = mn)
def QC (G : Gt) (rv : Option Value) (x' : Hp) : Array Value → State → Outcome → State → Prop := fun _ st oc t => oc = .returned rv ∧ HC G x' t.heap ∧ va_F (AC G) st t
def GoC (l : Launch) (G : Gt) (own mn : String) (cc : ByteArray) (nL : Nat) (rt : Option FieldType) (fr lo n0 u0 : Nat) (rv : Option Value) (x' : Hp) (pc : Nat) (lv : List (Nat × Value)) (st : List Value) (x : Hp) : Prop :=
  ∀ (p : Program) (e : Env) (s : State) (m : MethodId) (args : Array Value) (below : List Frame) (meth : Method) (c : Code), CxC G own mn cc nL rt n0 u0 p s m args meth c →
    ∀ (H : Heap) (locs : List Loc) (ls : Array Slot), lvh ls nL lv → HC G x H → va_S (AC G) s.heap H locs →
      W p l e (Rm fr lo (NXc - n0) (UXc - u0)) s m args below meth c H locs (H.size - s.heap.size) (ssum H s.heap.size) (MQ below (QC G rv x') args s (NXc - n0) (UXc - u0) (AC G)) (F0 m pc ls st)
def MtC (l : Launch) (G : Gt) (y : MethodName) (cc : ByteArray) (nL : Nat) (rt : Option FieldType) (fr lo : Nat) (av : List Value) (x : Hp) (rv : Option Value) (x' : Hp) : Prop :=
  Met l y (.code y cc nL rt :: gw) (Rm fr lo (NXc - x.nx) (UXc - x.us)) (va_Pc av (fun U => HC G x U.heap ∧ KC G U ∧ OC G U)) (QC G rv x') (NXc - x.nx) (UXc - x.us) (AC G)
theorem ssum_self (H : Heap) : ssum H H.size = 0 := by
  unfold ssum
  rw [List.drop_eq_nil_of_le (by simp)]
  rfl
section WX
variable {p : Program} {l : Launch} {e : Env} {R : Room} {s : State} {m : MethodId} {args : Array Value} {below : List Frame} {meth : Method} {c : Code} {H : Heap} {locs : List Loc} {cells slots : Nat} {Q : State → Prop} {g : JFrame}
theorem W.withX (h : ∀ T : State, T.heap = H → Stand p l e R s m args below meth c T locs cells slots → W p l e R s m args below meth c H locs cells slots Q g) : W p l e R s m args below meth c H locs cells slots Q g := fun T hT X => h T hT X T hT X
end WX
section GOC
variable {l : Launch} {G : Gt} {own mn : String} {cc : ByteArray} {nL : Nat} {rt : Option FieldType} {fr lo n0 u0 : Nat} {rv : Option Value} {x' : Hp} {pc : Nat} {lv lv' : List (Nat × Value)} {st rest : List Value} {x : Hp}
theorem MtC.of {y : MethodName} {av : List Value} (hy : plainName y.cls = true) (hn : (lg_sl av).length ≤ nL) (hc : cat1 av) (h : GoC l G y.cls y.name cc nL rt fr lo x.nx x.us rv x' 0 (lv_args 0 av) [] x) : MtC l G y cc nL rt fr lo av x rv x' := by
  refine Met.ofW (cc := cc) (maxL := nL) (ret := rt) hy rfl ?_
  intro p e s m args below meth c s₁ B hml hv
  obtain ⟨rfl, hH, hK, hO⟩ := hv
  have hts := atoms_spec B.pre
  have hl := lv_entry av hn
  rw [lg_entry_eq]
  have key := h p e s m av.toArray below meth c ⟨B.exec, B.bytes, hml, findClass_of_methodNamed B.named, fun w hw => hts w (List.mem_cons_of_mem _ hw), B.returns, B.notSynchronized, hK, hO, ⟨hH.1.1, hH.1.2.1, hH.2.1⟩, (name_of_methodNamed B.named B.method).1⟩ s.heap [] _ ⟨hl, cat1_args hc 0⟩ hH va_S.rf
  rw [Nat.sub_self, ssum_self] at key
  exact key
theorem GoC.sub (ks : List Nat) (hl : lv_pick lv ks = lv') (h : GoC l G own mn cc nL rt fr lo n0 u0 rv x' pc lv' st x) : GoC l G own mn cc nL rt fr lo n0 u0 rv x' pc lv st x :=
  fun p e s m args below meth c C H locs ls hl2 hH hS => h p e s m args below meth c C H locs ls (hl2.sub ks hl) hH hS
/-- what is left of the room -/
theorem c_room {s T : State} {n0 u0 : Nat} {x : Hp} {H : Heap} {locs : List Loc} {cells slots : Nat} {p : Program} {e : Env} {R : Room} {m : MethodId} {args : Array Value} {below : List Frame} {meth : Method} {c : Code} (hT : T.heap = H) (X : Stand p l e R s m args below meth c T locs cells slots) (hs : s.heap.size = G.base + (n0 - 2) ∧ 2 ≤ n0 ∧ ssum s.heap G.base = u0) (hH : HC G x H) : n0 ≤ x.nx ∧ H.size - s.heap.size = x.nx - n0 ∧ x.us = u0 + ssum H s.heap.size ∧ s.heap.size ≤ H.size := by
  have h1 := ssum_split X.same (b := G.base) (by rw [hs.1]; omega)
  have h2 : s.heap.size ≤ T.heap.size := X.same.2.1
  have e1 : (T.setVm s.vm).heap = T.heap := rfl
  rw [e1, hT] at h1
  rw [hT] at h2
  obtain ⟨⟨g1, g2, -⟩, g3, -⟩ := hH
  rw [g3, hs.2.2] at h1
  refine ⟨by omega, by omega, h1, h2⟩

theorem GoC.iconst {n : Int} (v : Int32) (hd : decode cc pc = .ok (.iconst n, 1)) (hv : Int32.ofInt n = v) (k : GoC l G own mn cc nL rt fr lo n0 u0 rv x' (pc + 1) lv (.int v :: st) x) : GoC l G own mn cc nL rt fr lo n0 u0 rv x' pc lv st x := by
  intro p e s m args below meth c C H locs ls hl hH hS
  obtain ⟨hx, hb, hml, ho, hts, hr, hk, hkn⟩ := id C
  exact lv_iconst hx hb hd hv (k p e s m args below meth c C H locs ls hl hH hS)
theorem GoC.bipush {n : Int} (v : Int32) (hd : decode cc pc = .ok (.bipush n, 2)) (hv : (Int8.ofInt n).toInt32 = v) (k : GoC l G own mn cc nL rt fr lo n0 u0 rv x' (pc + 2) lv (.int v :: st) x) : GoC l G own mn cc nL rt fr lo n0 u0 rv x' pc lv st x := by
  intro p e s m args below meth c C H locs ls hl hH hS
  obtain ⟨hx, hb, hml, ho, hts, hr, hk, hkn⟩ := id C
  exact lv_bipush hx hb hd hv (k p e s m args below meth c C H locs ls hl hH hS)
theorem GoC.sipush {n : Int} (v : Int32) (hd : decode cc pc = .ok (.sipush n, 3)) (hv : (Int16.ofInt n).toInt32 = v) (k : GoC l G own mn cc nL rt fr lo n0 u0 rv x' (pc + 3) lv (.int v :: st) x) : GoC l G own mn cc nL rt fr lo n0 u0 rv x' pc lv st x := by
  intro p e s m args below meth c C H locs ls hl hH hS
  obtain ⟨hx, hb, hml, ho, hts, hr, hk, hkn⟩ := id C
  exact lv_sipush hx hb hd hv (k p e s m args below meth c C H locs ls hl hH hS)
theorem GoC.ldc {i : Nat} {v : Int32} (hw : Cond.constant own i v ∈ gw) (hd : decode cc pc = .ok (.ldc i, 2)) (k : GoC l G own mn cc nL rt fr lo n0 u0 rv x' (pc + 2) lv (.int v :: st) x) : GoC l G own mn cc nL rt fr lo n0 u0 rv x' pc lv st x := by
  intro p e s m args below meth c C H locs ls hl hH hS
  obtain ⟨hx, hb, hml, ho, hts, hr, hk, hkn⟩ := id C
  exact lv_ldc hx hb ho (hts _ hw) hd (k p e s m args below meth c C H locs ls hl hH hS)
theorem GoC.iload_n {f : Fin 4} {v : Int32} (j : Nat) (hd : decode cc pc = .ok (.iload_n f, 1)) (hv : lv[j]? = some (f.val, .int v)) (k : GoC l G own mn cc nL rt fr lo n0 u0 rv x' (pc + 1) lv (.int v :: st) x) : GoC l G own mn cc nL rt fr lo n0 u0 rv x' pc lv st x := by
  intro p e s m args below meth c C H locs ls hl hH hS
  obtain ⟨hx, hb, hml, ho, hts, hr, hk, hkn⟩ := id C
  exact lv_iload_n hx hb hd rfl (lv_at hl.1 j hv) (k p e s m args below meth c C H locs ls hl hH hS)
theorem GoC.iload {i : Nat} {v : Int32} (j : Nat) (hd : decode cc pc = .ok (.iload i, 2)) (hv : lv[j]? = some (i, .int v)) (k : GoC l G own mn cc nL rt fr lo n0 u0 rv x' (pc + 2) lv (.int v :: st) x) : GoC l G own mn cc nL rt fr lo n0 u0 rv x' pc lv st x := by
  intro p e s m args below meth c C H locs ls hl hH hS
  obtain ⟨hx, hb, hml, ho, hts, hr, hk, hkn⟩ := id C
  exact lv_iload hx hb hd (lv_at hl.1 j hv) (k p e s m args below meth c C H locs ls hl hH hS)
theorem GoC.aload_n {f : Fin 4} {v : Nat} (j : Nat) (hd : decode cc pc = .ok (.aload_n f, 1)) (hv : lv[j]? = some (f.val, .ref v)) (k : GoC l G own mn cc nL rt fr lo n0 u0 rv x' (pc + 1) lv (.ref v :: st) x) : GoC l G own mn cc nL rt fr lo n0 u0 rv x' pc lv st x := by
  intro p e s m args below meth c C H locs ls hl hH hS
  obtain ⟨hx, hb, hml, ho, hts, hr, hk, hkn⟩ := id C
  exact lv_aload_n hx hb hd rfl (lv_at hl.1 j hv) (k p e s m args below meth c C H locs ls hl hH hS)
theorem GoC.aload {i : Nat} {v : Nat} (j : Nat) (hd : decode cc pc = .ok (.aload i, 2)) (hv : lv[j]? = some (i, .ref v)) (k : GoC l G own mn cc nL rt fr lo n0 u0 rv x' (pc + 2) lv (.ref v :: st) x) : GoC l G own mn cc nL rt fr lo n0 u0 rv x' pc lv st x := by
  intro p e s m args below meth c C H locs ls hl hH hS
  obtain ⟨hx, hb, hml, ho, hts, hr, hk, hkn⟩ := id C
  exact lv_aload hx hb hd (lv_at hl.1 j hv) (k p e s m args below meth c C H locs ls hl hH hS)
theorem GoC.istore_n {f : Fin 4} {v : Int32} (lv2 : List (Nat × Value)) (hd : decode cc pc = .ok (.istore_n f, 1)) (hn : f.val < nL) (hl2 : lset lv f.val (.int v) = lv2) (k : GoC l G own mn cc nL rt fr lo n0 u0 rv x' (pc + 1) lv2 st x) : GoC l G own mn cc nL rt fr lo n0 u0 rv x' pc lv (.int v :: st) x := by
  intro p e s m args below meth c C H locs ls hl hH hS
  obtain ⟨hx, hb, hml, ho, hts, hr, hk, hkn⟩ := id C
  subst hl2
  exact lv_istore_n hx hb hd rfl hl.1 hn rfl (fun ls2 h2 => k p e s m args below meth c C H locs ls2 (hl.set rfl h2) hH hS)
theorem GoC.istore {i : Nat} {v : Int32} (lv2 : List (Nat × Value)) (hd : decode cc pc = .ok (.istore i, 2)) (hn : i < nL) (hl2 : lset lv i (.int v) = lv2) (k : GoC l G own mn cc nL rt fr lo n0 u0 rv x' (pc + 2) lv2 st x) : GoC l G own mn cc nL rt fr lo n0 u0 rv x' pc lv (.int v :: st) x := by
  intro p e s m args below meth c C H locs ls hl hH hS
  obtain ⟨hx, hb, hml, ho, hts, hr, hk, hkn⟩ := id C
  subst hl2
  exact lv_istore hx hb hd hl.1 hn rfl (fun ls2 h2 => k p e s m args below meth c C H locs ls2 (hl.set rfl h2) hH hS)
theorem GoC.astore_n {f : Fin 4} {v : Nat} (lv2 : List (Nat × Value)) (hd : decode cc pc = .ok (.astore_n f, 1)) (hn : f.val < nL) (hl2 : lset lv f.val (.ref v) = lv2) (k : GoC l G own mn cc nL rt fr lo n0 u0 rv x' (pc + 1) lv2 st x) : GoC l G own mn cc nL rt fr lo n0 u0 rv x' pc lv (.ref v :: st) x := by
  intro p e s m args below meth c C H locs ls hl hH hS
  obtain ⟨hx, hb, hml, ho, hts, hr, hk, hkn⟩ := id C
  subst hl2
  exact lv_astore_n hx hb hd rfl hl.1 hn rfl (fun ls2 h2 => k p e s m args below meth c C H locs ls2 (hl.set rfl h2) hH hS)
theorem GoC.astore {i : Nat} {v : Nat} (lv2 : List (Nat × Value)) (hd : decode cc pc = .ok (.astore i, 2)) (hn : i < nL) (hl2 : lset lv i (.ref v) = lv2) (k : GoC l G own mn cc nL rt fr lo n0 u0 rv x' (pc + 2) lv2 st x) : GoC l G own mn cc nL rt fr lo n0 u0 rv x' pc lv (.ref v :: st) x := by
  intro p e s m args below meth c C H locs ls hl hH hS
  obtain ⟨hx, hb, hml, ho, hts, hr, hk, hkn⟩ := id C
  subst hl2
  exact lv_astore hx hb hd hl.1 hn rfl (fun ls2 h2 => k p e s m args below meth c C H locs ls2 (hl.set rfl h2) hH hS)
theorem GoC.iinc {i : Nat} {n : Int} {v w : Int32} (j : Nat) (lv2 : List (Nat × Value)) (hd : decode cc pc = .ok (.iinc i n, 3)) (hv : lv[j]? = some (i, .int v)) (hw : Int32.ofInt n = w) (hn : i < nL) (hl2 : lset lv i (.int (v + w)) = lv2) (k : GoC l G own mn cc nL rt fr lo n0 u0 rv x' (pc + 3) lv2 st x) : GoC l G own mn cc nL rt fr lo n0 u0 rv x' pc lv st x := by
  intro p e s m args below meth c C H locs ls hl hH hS
  obtain ⟨hx, hb, hml, ho, hts, hr, hk, hkn⟩ := id C
  subst hl2
  exact lv_iinc hx hb hd hl.1 hv (by rw [hw]) hn rfl (fun ls2 h2 => k p e s m args below meth c C H locs ls2 (hl.set rfl h2) hH hS)
theorem GoC.iadd {a b : Int32} (hd : decode cc pc = .ok (.iadd, 1)) (k : GoC l G own mn cc nL rt fr lo n0 u0 rv x' (pc + 1) lv (.int (a + b) :: st) x) : GoC l G own mn cc nL rt fr lo n0 u0 rv x' pc lv (.int b :: .int a :: st) x := by
  intro p e s m args below meth c C H locs ls hl hH hS
  obtain ⟨hx, hb, hml, ho, hts, hr, hk, hkn⟩ := id C
  exact lv_iadd hx hb hd (k p e s m args below meth c C H locs ls hl hH hS)
theorem GoC.isub {a b : Int32} (hd : decode cc pc = .ok (.isub, 1)) (k : GoC l G own mn cc nL rt fr lo n0 u0 rv x' (pc + 1) lv (.int (a - b) :: st) x) : GoC l G own mn cc nL rt fr lo n0 u0 rv x' pc lv (.int b :: .int a :: st) x := by
  intro p e s m args below meth c C H locs ls hl hH hS
  obtain ⟨hx, hb, hml, ho, hts, hr, hk, hkn⟩ := id C
  exact lv_isub hx hb hd (k p e s m args below meth c C H locs ls hl hH hS)
theorem GoC.imul {a b : Int32} (hd : decode cc pc = .ok (.imul, 1)) (k : GoC l G own mn cc nL rt fr lo n0 u0 rv x' (pc + 1) lv (.int (a * b) :: st) x) : GoC l G own mn cc nL rt fr lo n0 u0 rv x' pc lv (.int b :: .int a :: st) x := by
  intro p e s m args below meth c C H locs ls hl hH hS
  obtain ⟨hx, hb, hml, ho, hts, hr, hk, hkn⟩ := id C
  exact lv_imul hx hb hd (k p e s m args below meth c C H locs ls hl hH hS)
theorem GoC.iand {a b : Int32} (hd : decode cc pc = .ok (.iand, 1)) (k : GoC l G own mn cc nL rt fr lo n0 u0 rv x' (pc + 1) lv (.int (a &&& b) :: st) x) : GoC l G own mn cc nL rt fr lo n0 u0 rv x' pc lv (.int b :: .int a :: st) x := by
  intro p e s m args below meth c C H locs ls hl hH hS
  obtain ⟨hx, hb, hml, ho, hts, hr, hk, hkn⟩ := id C
  exact lv_iand hx hb hd (k p e s m args below meth c C H locs ls hl hH hS)
theorem GoC.ishl {a b : Int32} (hd : decode cc pc = .ok (.ishl, 1)) (k : GoC l G own mn cc nL rt fr lo n0 u0 rv x' (pc + 1) lv (.int (a <<< (b &&& 31)) :: st) x) : GoC l G own mn cc nL rt fr lo n0 u0 rv x' pc lv (.int b :: .int a :: st) x := by
  intro p e s m args below meth c C H locs ls hl hH hS
  obtain ⟨hx, hb, hml, ho, hts, hr, hk, hkn⟩ := id C
  exact lv_ishl hx hb hd (k p e s m args below meth c C H locs ls hl hH hS)
theorem GoC.ishr {a b : Int32} (hd : decode cc pc = .ok (.ishr, 1)) (k : GoC l G own mn cc nL rt fr lo n0 u0 rv x' (pc + 1) lv (.int (a >>> (b &&& 31)) :: st) x) : GoC l G own mn cc nL rt fr lo n0 u0 rv x' pc lv (.int b :: .int a :: st) x := by
  intro p e s m args below meth c C H locs ls hl hH hS
  obtain ⟨hx, hb, hml, ho, hts, hr, hk, hkn⟩ := id C
  exact lv_ishr hx hb hd (k p e s m args below meth c C H locs ls hl hH hS)
theorem GoC.idiv {a b : Int32} (hd : decode cc pc = .ok (.idiv, 1)) (hne : ¬ b = 0) (k : GoC l G own mn cc nL rt fr lo n0 u0 rv x' (pc + 1) lv (.int (a / b) :: st) x) : GoC l G own mn cc nL rt fr lo n0 u0 rv x' pc lv (.int b :: .int a :: st) x := by
  intro p e s m args below meth c C H locs ls hl hH hS
  obtain ⟨hx, hb, hml, ho, hts, hr, hk, hkn⟩ := id C
  exact lv_idiv hx hb hd hne (k p e s m args below meth c C H locs ls hl hH hS)
theorem GoC.irem {a b : Int32} (hd : decode cc pc = .ok (.irem, 1)) (hne : ¬ b = 0) (k : GoC l G own mn cc nL rt fr lo n0 u0 rv x' (pc + 1) lv (.int (a - a / b * b) :: st) x) : GoC l G own mn cc nL rt fr lo n0 u0 rv x' pc lv (.int b :: .int a :: st) x := by
  intro p e s m args below meth c C H locs ls hl hH hS
  obtain ⟨hx, hb, hml, ho, hts, hr, hk, hkn⟩ := id C
  exact lv_irem hx hb hd hne (k p e s m args below meth c C H locs ls hl hH hS)
theorem GoC.ineg {a : Int32} (hd : decode cc pc = .ok (.ineg, 1)) (k : GoC l G own mn cc nL rt fr lo n0 u0 rv x' (pc + 1) lv (.int (-a) :: st) x) : GoC l G own mn cc nL rt fr lo n0 u0 rv x' pc lv (.int a :: st) x := by
  intro p e s m args below meth c C H locs ls hl hH hS
  obtain ⟨hx, hb, hml, ho, hts, hr, hk, hkn⟩ := id C
  exact lv_ineg hx hb hd (k p e s m args below meth c C H locs ls hl hH hS)
theorem GoC.dup {v : Value} (hd : decode cc pc = .ok (.dup, 1)) (hc : v.category = 1) (k : GoC l G own mn cc nL rt fr lo n0 u0 rv x' (pc + 1) lv (v :: v :: st) x) : GoC l G own mn cc nL rt fr lo n0 u0 rv x' pc lv (v :: st) x := by
  intro p e s m args below meth c C H locs ls hl hH hS
  obtain ⟨hx, hb, hml, ho, hts, hr, hk, hkn⟩ := id C
  exact lv_dup hx hb hd hc (k p e s m args below meth c C H locs ls hl hH hS)
theorem GoC.dup2 {v w : Value} (hd : decode cc pc = .ok (.dup2, 1)) (hc : v.category = 1) (hc2 : w.category = 1) (k : GoC l G own mn cc nL rt fr lo n0 u0 rv x' (pc + 1) lv (v :: w :: v :: w :: st) x) : GoC l G own mn cc nL rt fr lo n0 u0 rv x' pc lv (v :: w :: st) x := by
  intro p e s m args below meth c C H locs ls hl hH hS
  obtain ⟨hx, hb, hml, ho, hts, hr, hk, hkn⟩ := id C
  exact lv_dup2_11 hx hb hd hc hc2 (k p e s m args below meth c C H locs ls hl hH hS)
theorem GoC.pop {v : Value} (hd : decode cc pc = .ok (.pop, 1)) (hc : v.category = 1) (k : GoC l G own mn cc nL rt fr lo n0 u0 rv x' (pc + 1) lv st x) : GoC l G own mn cc nL rt fr lo n0 u0 rv x' pc lv (v :: st) x := by
  intro p e s m args below meth c C H locs ls hl hH hS
  obtain ⟨hx, hb, hml, ho, hts, hr, hk, hkn⟩ := id C
  exact lv_pop hx hb hd hc (k p e s m args below meth c C H locs ls hl hH hS)
theorem GoC.goto {off : Int} (tgt : Nat) (hd : decode cc pc = .ok (.goto off, 3)) (ht : (pc : Int) + off = (tgt : Int)) (k : GoC l G own mn cc nL rt fr lo n0 u0 rv x' tgt lv st x) : GoC l G own mn cc nL rt fr lo n0 u0 rv x' pc lv st x := by
  intro p e s m args below meth c C H locs ls hl hH hS
  obtain ⟨hx, hb, hml, ho, hts, hr, hk, hkn⟩ := id C
  exact lv_goto hx hb hd ht (k p e s m args below meth c C H locs ls hl hH hS)
theorem GoC.if_eq {Y : Type} {Z : Y} {a : Int32} {off : Int} {A B : Option Y} (tgt : Nat) (hd : decode cc pc = .ok (.ifCond .eq off, 3)) (ht : (pc : Int) + off = (tgt : Int)) (h : (if a = 0 then A else B) = some Z) (kt : A = some Z → GoC l G own mn cc nL rt fr lo n0 u0 rv x' tgt lv st x) (kf : B = some Z → GoC l G own mn cc nL rt fr lo n0 u0 rv x' (pc + 3) lv st x) : GoC l G own mn cc nL rt fr lo n0 u0 rv x' pc lv (.int a :: st) x := by
  intro p e s m args below meth c C H locs ls hl hH hS
  obtain ⟨hx, hb, hml, ho, hts, hr, hk, hkn⟩ := id C
  exact lv_if_eq hx hb hd ht (fun q => kt (by rw [if_pos q] at h; exact h) p e s m args below meth c C H locs ls hl hH hS) (fun q => kf (by rw [if_neg q] at h; exact h) p e s m args below meth c C H locs ls hl hH hS)
theorem GoC.icmp_eq {Y : Type} {Z : Y} {a b : Int32} {off : Int} {A B : Option Y} (tgt : Nat) (hd : decode cc pc = .ok (.if_icmp .eq off, 3)) (ht : (pc : Int) + off = (tgt : Int)) (h : (if a = b then A else B) = some Z) (kt : A = some Z → GoC l G own mn cc nL rt fr lo n0 u0 rv x' tgt lv st x) (kf : B = some Z → GoC l G own mn cc nL rt fr lo n0 u0 rv x' (pc + 3) lv st x) : GoC l G own mn cc nL rt fr lo n0 u0 rv x' pc lv (.int b :: .int a :: st) x := by
  intro p e s m args below meth c C H locs ls hl hH hS
  obtain ⟨hx, hb, hml, ho, hts, hr, hk, hkn⟩ := id C
  exact lv_icmp_eq hx hb hd ht (fun q => kt (by rw [if_pos q] at h; exact h) p e s m args below meth c C H locs ls hl hH hS) (fun q => kf (by rw [if_neg q] at h; exact h) p e s m args below meth c C H locs ls hl hH hS)
theorem GoC.if_ne {Y : Type} {Z : Y} {a : Int32} {off : Int} {A B : Option Y} (tgt : Nat) (hd : decode cc pc = .ok (.ifCond .ne off, 3)) (ht : (pc : Int) + off = (tgt : Int)) (h : (if a = 0 then B else A) = some Z) (kt : A = some Z → GoC l G own mn cc nL rt fr lo n0 u0 rv x' tgt lv st x) (kf : B = some Z → GoC l G own mn cc nL rt fr lo n0 u0 rv x' (pc + 3) lv st x) : GoC l G own mn cc nL rt fr lo n0 u0 rv x' pc lv (.int a :: st) x := by
  intro p e s m args below meth c C H locs ls hl hH hS
  obtain ⟨hx, hb, hml, ho, hts, hr, hk, hkn⟩ := id C
  exact lv_if_ne hx hb hd ht (fun q => kt (by rw [if_neg q] at h; exact h) p e s m args below meth c C H locs ls hl hH hS) (fun q => kf (by rw [if_pos q] at h; exact h) p e s m args below meth c C H locs ls hl hH hS)
theorem GoC.icmp_ne {Y : Type} {Z : Y} {a b : Int32} {off : Int} {A B : Option Y} (tgt : Nat) (hd : decode cc pc = .ok (.if_icmp .ne off, 3)) (ht : (pc : Int) + off = (tgt : Int)) (h : (if a = b then B else A) = some Z) (kt : A = some Z → GoC l G own mn cc nL rt fr lo n0 u0 rv x' tgt lv st x) (kf : B = some Z → GoC l G own mn cc nL rt fr lo n0 u0 rv x' (pc + 3) lv st x) : GoC l G own mn cc nL rt fr lo n0 u0 rv x' pc lv (.int b :: .int a :: st) x := by
  intro p e s m args below meth c C H locs ls hl hH hS
  obtain ⟨hx, hb, hml, ho, hts, hr, hk, hkn⟩ := id C
  exact lv_icmp_ne hx hb hd ht (fun q => kt (by rw [if_neg q] at h; exact h) p e s m args below meth c C H locs ls hl hH hS) (fun q => kf (by rw [if_pos q] at h; exact h) p e s m args below meth c C H locs ls hl hH hS)
theorem GoC.if_lt {Y : Type} {Z : Y} {a : Int32} {off : Int} {A B : Option Y} (tgt : Nat) (hd : decode cc pc = .ok (.ifCond .lt off, 3)) (ht : (pc : Int) + off = (tgt : Int)) (h : (if a < 0 then A else B) = some Z) (kt : A = some Z → GoC l G own mn cc nL rt fr lo n0 u0 rv x' tgt lv st x) (kf : B = some Z → GoC l G own mn cc nL rt fr lo n0 u0 rv x' (pc + 3) lv st x) : GoC l G own mn cc nL rt fr lo n0 u0 rv x' pc lv (.int a :: st) x := by
  intro p e s m args below meth c C H locs ls hl hH hS
  obtain ⟨hx, hb, hml, ho, hts, hr, hk, hkn⟩ := id C
  exact lv_if_lt hx hb hd ht (fun q => kt (by rw [if_pos q] at h; exact h) p e s m args below meth c C H locs ls hl hH hS) (fun q => kf (by rw [if_neg q] at h; exact h) p e s m args below meth c C H locs ls hl hH hS)
theorem GoC.icmp_lt {Y : Type} {Z : Y} {a b : Int32} {off : Int} {A B : Option Y} (tgt : Nat) (hd : decode cc pc = .ok (.if_icmp .lt off, 3)) (ht : (pc : Int) + off = (tgt : Int)) (h : (if a < b then A else B) = some Z) (kt : A = some Z → GoC l G own mn cc nL rt fr lo n0 u0 rv x' tgt lv st x) (kf : B = some Z → GoC l G own mn cc nL rt fr lo n0 u0 rv x' (pc + 3) lv st x) : GoC l G own mn cc nL rt fr lo n0 u0 rv x' pc lv (.int b :: .int a :: st) x := by
  intro p e s m args below meth c C H locs ls hl hH hS
  obtain ⟨hx, hb, hml, ho, hts, hr, hk, hkn⟩ := id C
  exact lv_icmp_lt hx hb hd ht (fun q => kt (by rw [if_pos q] at h; exact h) p e s m args below meth c C H locs ls hl hH hS) (fun q => kf (by rw [if_neg q] at h; exact h) p e s m args below meth c C H locs ls hl hH hS)
theorem GoC.if_ge {Y : Type} {Z : Y} {a : Int32} {off : Int} {A B : Option Y} (tgt : Nat) (hd : decode cc pc = .ok (.ifCond .ge off, 3)) (ht : (pc : Int) + off = (tgt : Int)) (h : (if 0 ≤ a then A else B) = some Z) (kt : A = some Z → GoC l G own mn cc nL rt fr lo n0 u0 rv x' tgt lv st x) (kf : B = some Z → GoC l G own mn cc nL rt fr lo n0 u0 rv x' (pc + 3) lv st x) : GoC l G own mn cc nL rt fr lo n0 u0 rv x' pc lv (.int a :: st) x := by
  intro p e s m args below meth c C H locs ls hl hH hS
  obtain ⟨hx, hb, hml, ho, hts, hr, hk, hkn⟩ := id C
  exact lv_if_ge hx hb hd ht (fun q => kt (by rw [if_pos q] at h; exact h) p e s m args below meth c C H locs ls hl hH hS) (fun q => kf (by rw [if_neg q] at h; exact h) p e s m args below meth c C H locs ls hl hH hS)
theorem GoC.icmp_ge {Y : Type} {Z : Y} {a b : Int32} {off : Int} {A B : Option Y} (tgt : Nat) (hd : decode cc pc = .ok (.if_icmp .ge off, 3)) (ht : (pc : Int) + off = (tgt : Int)) (h : (if b ≤ a then A else B) = some Z) (kt : A = some Z → GoC l G own mn cc nL rt fr lo n0 u0 rv x' tgt lv st x) (kf : B = some Z → GoC l G own mn cc nL rt fr lo n0 u0 rv x' (pc + 3) lv st x) : GoC l G own mn cc nL rt fr lo n0 u0 rv x' pc lv (.int b :: .int a :: st) x := by
  intro p e s m args below meth c C H locs ls hl hH hS
  obtain ⟨hx, hb, hml, ho, hts, hr, hk, hkn⟩ := id C
  exact lv_icmp_ge hx hb hd ht (fun q => kt (by rw [if_pos q] at h; exact h) p e s m args below meth c C H locs ls hl hH hS) (fun q => kf (by rw [if_neg q] at h; exact h) p e s m args below meth c C H locs ls hl hH hS)
theorem GoC.if_gt {Y : Type} {Z : Y} {a : Int32} {off : Int} {A B : Option Y} (tgt : Nat) (hd : decode cc pc = .ok (.ifCond .gt off, 3)) (ht : (pc : Int) + off = (tgt : Int)) (h : (if 0 < a then A else B) = some Z) (kt : A = some Z → GoC l G own mn cc nL rt fr lo n0 u0 rv x' tgt lv st x) (kf : B = some Z → GoC l G own mn cc nL rt fr lo n0 u0 rv x' (pc + 3) lv st x) : GoC l G own mn cc nL rt fr lo n0 u0 rv x' pc lv (.int a :: st) x := by
  intro p e s m args below meth c C H locs ls hl hH hS
  obtain ⟨hx, hb, hml, ho, hts, hr, hk, hkn⟩ := id C
  exact lv_if_gt hx hb hd ht (fun q => kt (by rw [if_pos q] at h; exact h) p e s m args below meth c C H locs ls hl hH hS) (fun q => kf (by rw [if_neg q] at h; exact h) p e s m args below meth c C H locs ls hl hH hS)
theorem GoC.icmp_gt {Y : Type} {Z : Y} {a b : Int32} {off : Int} {A B : Option Y} (tgt : Nat) (hd : decode cc pc = .ok (.if_icmp .gt off, 3)) (ht : (pc : Int) + off = (tgt : Int)) (h : (if b < a then A else B) = some Z) (kt : A = some Z → GoC l G own mn cc nL rt fr lo n0 u0 rv x' tgt lv st x) (kf : B = some Z → GoC l G own mn cc nL rt fr lo n0 u0 rv x' (pc + 3) lv st x) : GoC l G own mn cc nL rt fr lo n0 u0 rv x' pc lv (.int b :: .int a :: st) x := by
  intro p e s m args below meth c C H locs ls hl hH hS
  obtain ⟨hx, hb, hml, ho, hts, hr, hk, hkn⟩ := id C
  exact lv_icmp_gt hx hb hd ht (fun q => kt (by rw [if_pos q] at h; exact h) p e s m args below meth c C H locs ls hl hH hS) (fun q => kf (by rw [if_neg q] at h; exact h) p e s m args below meth c C H locs ls hl hH hS)
theorem GoC.if_le {Y : Type} {Z : Y} {a : Int32} {off : Int} {A B : Option Y} (tgt : Nat) (hd : decode cc pc = .ok (.ifCond .le off, 3)) (ht : (pc : Int) + off = (tgt : Int)) (h : (if a ≤ 0 then A else B) = some Z) (kt : A = some Z → GoC l G own mn cc nL rt fr lo n0 u0 rv x' tgt lv st x) (kf : B = some Z → GoC l G own mn cc nL rt fr lo n0 u0 rv x' (pc + 3) lv st x) : GoC l G own mn cc nL rt fr lo n0 u0 rv x' pc lv (.int a :: st) x := by
  intro p e s m args below meth c C H locs ls hl hH hS
  obtain ⟨hx, hb, hml, ho, hts, hr, hk, hkn⟩ := id C
  exact lv_if_le hx hb hd ht (fun q => kt (by rw [if_pos q] at h; exact h) p e s m args below meth c C H locs ls hl hH hS) (fun q => kf (by rw [if_neg q] at h; exact h) p e s m args below meth c C H locs ls hl hH hS)
theorem GoC.icmp_le {Y : Type} {Z : Y} {a b : Int32} {off : Int} {A B : Option Y} (tgt : Nat) (hd : decode cc pc = .ok (.if_icmp .le off, 3)) (ht : (pc : Int) + off = (tgt : Int)) (h : (if a ≤ b then A else B) = some Z) (kt : A = some Z → GoC l G own mn cc nL rt fr lo n0 u0 rv x' tgt lv st x) (kf : B = some Z → GoC l G own mn cc nL rt fr lo n0 u0 rv x' (pc + 3) lv st x) : GoC l G own mn cc nL rt fr lo n0 u0 rv x' pc lv (.int b :: .int a :: st) x := by
  intro p e s m args below meth c C H locs ls hl hH hS
  obtain ⟨hx, hb, hml, ho, hts, hr, hk, hkn⟩ := id C
  exact lv_icmp_le hx hb hd ht (fun q => kt (by rw [if_pos q] at h; exact h) p e s m args below meth c C H locs ls hl hH hS) (fun q => kf (by rw [if_neg q] at h; exact h) p e s m args below meth c C H locs ls hl hH hS)
theorem GoC.tabIn {dflt lo2 hi : Int} {offs : Array Int} {len : Nat} {a : Int32} {off : Int} (tgt : Nat) (v : Int32) (ha : a = v) (hd : decode cc pc = .ok (.tableswitch dflt lo2 hi offs, len)) (h1 : ¬ v.toInt < lo2) (h2 : ¬ hi < v.toInt) (h3 : offs[(v.toInt - lo2).toNat]? = some off) (ht : (pc : Int) + off = (tgt : Int)) (k : GoC l G own mn cc nL rt fr lo n0 u0 rv x' tgt lv st x) : GoC l G own mn cc nL rt fr lo n0 u0 rv x' pc lv (.int a :: st) x := by
  intro p e s m args below meth c C H locs ls hl hH hS
  obtain ⟨hx, hb, hml, ho, hts, hr, hk, hkn⟩ := id C
  subst ha
  exact lv_tableIn hx hb hd h1 h2 h3 ht (k p e s m args below meth c C H locs ls hl hH hS)
theorem GoC.tabOut {dflt lo2 hi : Int} {offs : Array Int} {len : Nat} {a : Int32} (tgt : Nat) (hd : decode cc pc = .ok (.tableswitch dflt lo2 hi offs, len)) (h1 : a.toInt < lo2 ∨ hi < a.toInt) (ht : (pc : Int) + dflt = (tgt : Int)) (k : GoC l G own mn cc nL rt fr lo n0 u0 rv x' tgt lv st x) : GoC l G own mn cc nL rt fr lo n0 u0 rv x' pc lv (.int a :: st) x := by
  intro p e s m args below meth c C H locs ls hl hH hS
  obtain ⟨hx, hb, hml, ho, hts, hr, hk, hkn⟩ := id C
  exact lv_tableOut hx hb hd h1 ht (k p e s m args below meth c C H locs ls hl hH hS)
theorem GoC.iret {v : Int32} (hd : decode cc pc = .ok (.ireturn, 1)) (hrt : rt = some .int) : GoC l G own mn cc nL rt fr lo n0 u0 (some (.int v)) x pc lv [.int v] x := by
  intro p e s m args below meth c C H locs ls hl hH hS
  obtain ⟨hx, hb, hml, ho, hts, hr, hk, hkn⟩ := id C
  subst hrt
  intro T hT X
  obtain ⟨q1, q2, q3, q4⟩ := c_room hT X hkn.2.2.1 hH
  obtain ⟨⟨-, -, -, g4, g5⟩, -⟩ := id hH
  have g4 : x.nx ≤ NXc := g4
  have g5 : x.us ≤ UXc := g5
  exact (W.widen (k := NXc - n0) (n := UXc - u0) (by omega) (by omega) (W.iret hx hb hr (fun t ht hW => ⟨rfl, by rw [ht]; exact hH, hS.F ht⟩) hS.2.2 hd)) T hT X
theorem GoC.zret {v w : Int32} (hd : decode cc pc = .ok (.ireturn, 1)) (hrt : rt = some .boolean) (h : zb v = some w) : GoC l G own mn cc nL rt fr lo n0 u0 (some (.int w)) x pc lv [.int v] x := by
  intro p e s m args below meth c C H locs ls hl hH hS
  obtain ⟨hx, hb, hml, ho, hts, hr, hk, hkn⟩ := id C
  subst hrt
  obtain ⟨rfl, hn⟩ := zb_nar h
  intro T hT X
  obtain ⟨q1, q2, q3, q4⟩ := c_room hT X hkn.2.2.1 hH
  obtain ⟨⟨-, -, -, g4, g5⟩, -⟩ := id hH
  have g4 : x.nx ≤ NXc := g4
  have g5 : x.us ≤ UXc := g5
  exact (W.widen (k := NXc - n0) (n := UXc - u0) (by omega) (by omega) (W.zret hx hb hr hn (fun t ht hW => ⟨rfl, by rw [ht]; exact hH, hS.F ht⟩) hS.2.2 hd)) T hT X
theorem GoC.vret (hd : decode cc pc = .ok (.return_, 1)) (hrt : rt = none) : GoC l G own mn cc nL rt fr lo n0 u0 none x pc lv [] x := by
  intro p e s m args below meth c C H locs ls hl hH hS
  obtain ⟨hx, hb, hml, ho, hts, hr, hk, hkn⟩ := id C
  subst hrt
  intro T hT X
  obtain ⟨q1, q2, q3, q4⟩ := c_room hT X hkn.2.2.1 hH
  obtain ⟨⟨-, -, -, g4, g5⟩, -⟩ := id hH
  have g4 : x.nx ≤ NXc := g4
  have g5 : x.us ≤ UXc := g5
  exact (W.widen (k := NXc - n0) (n := UXc - u0) (by omega) (by omega) (W.vret hx hb hr (fun t ht hW => ⟨rfl, by rw [ht]; exact hH, hS.F ht⟩) hS.2.2 hd)) T hT X
end GOC
