/-! X9_insert -/
def kX9_insert_260  (x0 : Nat) (x2 : Int32) (x3 : Nat) (σ : Hp) : Option (Hp) := (gfi σ 13 302 x3).bind (fun v1 => (gfr σ 19 900 x0).bind (fun v2 => (gfi σ 17 707 v2).bind (fun v3 => if v1 ≤ v3 then some σ else ckd σ x0 19 ((kX9_split σ x0 x3).bind (fun σ4 => ckd σ4 x0 19 ((kX9_makeRoot σ4 x0 x2).bind (fun σ5 => some σ5)))))))
def kX9_insert_156  : Nat → Nat → Int32 → Nat → Int32 → Hp → Option (Hp)
  | 0, _, _, _, _, _ => none
  | n + 1, x0, x2, x3, x5, σ => if x5 < 0 then kX9_insert_260 x0 x2 x3 σ else (gfi σ 13 302 x3).bind (fun v6 => (gfr σ 19 900 x0).bind (fun v7 => (gfi σ 17 707 v7).bind (fun v8 => if v6 ≤ v8 then kX9_insert_260 x0 x2 x3 σ else (gfr σ 19 900 x0).bind (fun v9 => (gfr σ 19 902 x0).bind (fun v10 => (ald σ 1 v10 x5).bind (fun v11 => ckd σ v9 17 ((kX7_at σ v9 v11).bind (fun v12 => ckd σ x0 19 ((kX9_split σ x0 x3).bind (fun σ13 => (gfr σ13 19 903 x0).bind (fun v14 => (ald σ13 1 v14 x5).bind (fun v15 => (gfi σ13 19 907 x0).bind (fun v16 => (gfi σ13 19 905 x0).bind (fun v17 => ckd σ13 v12 13 ((kX3_setEntry σ13 v12 v15 v16 v17 x2).bind (fun σ18 => (gfr σ18 19 903 x0).bind (fun v19 => (ald σ18 1 v19 x5).bind (fun v20 => (gfi σ18 19 908 x0).bind (fun v21 => (gfi σ18 19 906 x0).bind (fun v22 => (gfi σ18 19 909 x0).bind (fun v23 => ckd σ18 v12 13 ((kX3_insertEntry σ18 v12 (v20 + 1) v21 v22 v23).bind (fun σ24 => (gfr σ24 19 902 x0).bind (fun v25 => (ald σ24 1 v25 x5).bind (fun v26 => kX9_insert_156 n x0 v26 v12 (x5 + (-1)) σ24)))))))))))))))))))))))))
def kX9_insert_139  (x0 : Nat) (x1 : Int32) (x2 : Int32) (x3 : Nat) (x4 : Int32) (σ : Hp) : Option (Hp) := (gfi σ 13 302 x3).bind (fun v27 => ckd σ x3 13 ((kX3_insertEntry σ x3 v27 x1 0 (-1)).bind (fun σ28 => kX9_insert_156 FU x0 x2 x3 (x4 - 1) σ28)))
def kX9_insert_92 (k23 : Nat → Int32 → Int32 → Nat → Int32 → Int32 → Hp → Option (Hp)) (x0 : Nat) (x1 : Int32) (x2 : Int32) (x3 : Nat) (x5 : Int32) (x6 : Int32) (y0 : Nat) (y1 : Int32) (y2 : Int32) (σ : Hp) : Option (Hp) := (ast σ 1 y0 y1 y2).bind (fun σ29 => (gfr σ29 19 902 x0).bind (fun v30 => (ast σ29 1 v30 x5 x2).bind (fun σ31 => (gfr σ31 19 903 x0).bind (fun v32 => (ast σ31 1 v32 x5 x6).bind (fun σ33 => (gfr σ33 13 305 x3).bind (fun v34 => (ald σ33 1 v34 x6).bind (fun v35 => (gfr σ33 19 900 x0).bind (fun v36 => ckd σ33 v36 17 ((kX7_at σ33 v36 v35).bind (fun v37 => k23 x0 x1 v35 v37 (x5 + 1) (x5 + 1) σ33))))))))))
def kX9_insert_23  : Nat → Nat → Int32 → Int32 → Nat → Int32 → Int32 → Hp → Option (Hp)
  | 0, _, _, _, _, _, _, _ => none
  | n + 1, x0, x1, x2, x3, x4, x5, σ => if 40 ≤ x5 then kX9_insert_139 x0 x1 x2 x3 x4 σ else (gfi σ 13 300 x3).bind (fun v38 => if v38 = 0 then ckd σ x0 19 ((kX9_entryFor σ x0 x3 x1).bind (fun v39 => (gfr σ 19 901 x0).bind (fun v40 => (gfr σ 13 303 x3).bind (fun v41 => (ald σ 1 v41 v39).bind (fun v42 => ckd σ v40 11 ((kX1_of σ v40 v42 x1).bind (fun v43 => (gfr σ 13 304 x3).bind (fun v44 => (gfr σ 13 304 x3).bind (fun v45 => (ald σ 1 v45 v39).bind (fun v46 => if v43 ≤ v46 then (gfr σ 13 304 x3).bind (fun v47 => (ald σ 1 v47 v39).bind (fun v48 => kX9_insert_92 (kX9_insert_23 n) x0 x1 x2 x3 x5 v39 v44 v39 v48 σ)) else kX9_insert_92 (kX9_insert_23 n) x0 x1 x2 x3 x5 v39 v44 v39 v43 σ)))))))))) else kX9_insert_139 x0 x1 x2 x3 x4 σ)
def kX9_insert (σ : Hp) (x0 : Nat) (x1 : Int32) : Option (Hp) := (gfr σ 19 900 x0).bind (fun v49 => (gfi σ 17 710 v49).bind (fun v50 => (gfr σ 19 900 x0).bind (fun v51 => ckd σ v51 17 ((kX7_at σ v51 v50).bind (fun v52 => kX9_insert_23 FU x0 x1 v50 v52 0 0 σ)))))
set_option maxRecDepth 20000 in
theorem ksX9_insert_260 {l : Launch} {G : Gt} {n0 u0 : Nat} {Z : Hp} (x0 : Nat) (x2 : Int32) (x3 : Nat) (σ : Hp) (h : kX9_insert_260 x0 x2 x3 σ = some Z) : GoC l G RX9 "insert" cX9_insert 8 none 9 228 n0 u0 none Z 260 [(0, G.rv x0), (2, .int x2), (3, G.rv x3)] [] σ := by
  unfold kX9_insert_260 at h
  refine GC.aload_n 2 dX9_insert_260 rfl ?_
  refine GC.geti 3 2 rfl (by decide) (by decide) fw_X9_75 (Or.inl rfl) dX9_insert_261 h (fun v1 h => ?_)
  refine GC.aload_n 0 dX9_insert_264 rfl ?_
  refine GC.getr 9 0 rfl (by decide) (by decide) fw_X9_22 (Or.inl rfl) dX9_insert_265 h (fun v2 h => ?_)
  refine GC.geti 7 7 rfl (by decide) (by decide) fw_X9_82 (Or.inl rfl) dX9_insert_268 h (fun v3 h => ?_)
  refine GoC.icmp_le 284 dX9_insert_271 (by decide) h (fun h => ?_) (fun h => ?_)
  · cases h
    exact GoC.vret dX9_insert_284 rfl
  · refine GC.aload_n 0 dX9_insert_274 rfl ?_
    refine GC.aload_n 2 dX9_insert_275 rfl ?_
    obtain ⟨h0, h⟩ := ckd_some h
    obtain ⟨σ4, hq, h⟩ := Option.bind_eq_some_iff.mp h
    refine GC.callvV (rest := []) 9 rfl h0 rfl [G.rv x3] dX9_insert_276 kk_X9_85 km_X9_split.1 km_X9_split.2 (ktX9_split _ _ _ hq) rfl rfl (Nat.le_of_ble_eq_true rfl) (Nat.le_of_ble_eq_true rfl) trivial (Nat.le_of_ble_eq_true rfl) ?_
    refine GC.aload_n 0 dX9_insert_279 rfl ?_
    refine GoC.iload_n 1 dX9_insert_280 rfl ?_
    obtain ⟨h0, h⟩ := ckd_some h
    obtain ⟨σ5, hq, h⟩ := Option.bind_eq_some_iff.mp h
    refine GC.callvV (rest := []) 9 rfl h0 rfl [.int x2] dX9_insert_281 kk_X9_107 km_X9_makeRoot.1 km_X9_makeRoot.2 (ktX9_makeRoot _ _ _ hq) rfl rfl (Nat.le_of_ble_eq_true rfl) (Nat.le_of_ble_eq_true rfl) trivial (Nat.le_of_ble_eq_true rfl) ?_
    cases h
    exact GoC.vret dX9_insert_284 rfl
set_option maxRecDepth 20000 in
theorem ksX9_insert_156 {l : Launch} {G : Gt} {n0 u0 : Nat} {Z : Hp} (n : Nat) : ∀ (x0 : Nat) (x2 : Int32) (x3 : Nat) (x5 : Int32) (σ : Hp), kX9_insert_156 n x0 x2 x3 x5 σ = some Z → GoC l G RX9 "insert" cX9_insert 8 none 9 228 n0 u0 none Z 156 [(0, G.rv x0), (2, .int x2), (3, G.rv x3), (5, .int x5)] [] σ := by
  induction n with
  | zero => intro x0 x2 x3 x5 σ h; rw [kX9_insert_156] at h; cases h
  | succ n ih =>
    intro x0 x2 x3 x5 σ h
    rw [kX9_insert_156] at h
    refine GoC.iload 3 dX9_insert_156 rfl ?_
    refine GoC.if_lt 260 dX9_insert_158 (by decide) h (fun h => ?_) (fun h => ?_)
    · refine GoC.sub [0, 1, 2] rfl ?_
      exact ksX9_insert_260 _ _ _ _ h
    · refine GC.aload_n 2 dX9_insert_161 rfl ?_
      refine GC.geti 3 2 rfl (by decide) (by decide) fw_X9_75 (Or.inl rfl) dX9_insert_162 h (fun v6 h => ?_)
      refine GC.aload_n 0 dX9_insert_165 rfl ?_
      refine GC.getr 9 0 rfl (by decide) (by decide) fw_X9_22 (Or.inl rfl) dX9_insert_166 h (fun v7 h => ?_)
      refine GC.geti 7 7 rfl (by decide) (by decide) fw_X9_82 (Or.inl rfl) dX9_insert_169 h (fun v8 h => ?_)
      refine GoC.icmp_le 260 dX9_insert_172 (by decide) h (fun h => ?_) (fun h => ?_)
      · refine GoC.sub [0, 1, 2] rfl ?_
        exact ksX9_insert_260 _ _ _ _ h
      · refine GC.aload_n 0 dX9_insert_175 rfl ?_
        refine GC.getr 9 0 rfl (by decide) (by decide) fw_X9_22 (Or.inl rfl) dX9_insert_176 h (fun v9 h => ?_)
        refine GC.aload_n 0 dX9_insert_179 rfl ?_
        refine GC.getr 9 2 rfl (by decide) (by decide) fw_X9_9 (Or.inl rfl) dX9_insert_180 h (fun v10 h => ?_)
        refine GoC.iload 3 dX9_insert_183 rfl ?_
        refine GC.iald dX9_insert_185 h (fun v11 h => ?_)
        obtain ⟨h0, h⟩ := ckd_some h
        obtain ⟨v12, hq, h⟩ := Option.bind_eq_some_iff.mp h
        refine GC.callvR (rest := []) 7 rfl h0 rfl [.int v11] dX9_insert_186 kk_X9_46 km_X7_at.1 km_X7_at.2 (ktX7_at _ _ _ hq) rfl rfl (Nat.le_of_ble_eq_true rfl) (Nat.le_of_ble_eq_true rfl) trivial (Nat.le_of_ble_eq_true rfl) ?_
        refine GC.astore [(0, G.rv x0), (2, .int x2), (3, G.rv x3), (5, .int x5), (6, G.rv v12)] dX9_insert_189 (by decide) rfl ?_
        refine GC.aload_n 0 dX9_insert_191 rfl ?_
        refine GC.aload_n 2 dX9_insert_192 rfl ?_
        obtain ⟨h0, h⟩ := ckd_some h
        obtain ⟨σ13, hq, h⟩ := Option.bind_eq_some_iff.mp h
        refine GC.callvV (rest := []) 9 rfl h0 rfl [G.rv x3] dX9_insert_193 kk_X9_85 km_X9_split.1 km_X9_split.2 (ktX9_split _ _ _ hq) rfl rfl (Nat.le_of_ble_eq_true rfl) (Nat.le_of_ble_eq_true rfl) trivial (Nat.le_of_ble_eq_true rfl) ?_
        refine GC.aload 4 dX9_insert_196 rfl ?_
        refine GC.aload_n 0 dX9_insert_198 rfl ?_
        refine GC.getr 9 3 rfl (by decide) (by decide) fw_X9_15 (Or.inl rfl) dX9_insert_199 h (fun v14 h => ?_)
        refine GoC.iload 3 dX9_insert_202 rfl ?_
        refine GC.iald dX9_insert_204 h (fun v15 h => ?_)
        refine GC.aload_n 0 dX9_insert_205 rfl ?_
        refine GC.geti 9 7 rfl (by decide) (by decide) fw_X9_89 (Or.inl rfl) dX9_insert_206 h (fun v16 h => ?_)
        refine GC.aload_n 0 dX9_insert_209 rfl ?_
        refine GC.geti 9 5 rfl (by decide) (by decide) fw_X9_92 (Or.inl rfl) dX9_insert_210 h (fun v17 h => ?_)
        refine GoC.iload_n 1 dX9_insert_213 rfl ?_
        obtain ⟨h0, h⟩ := ckd_some h
        obtain ⟨σ18, hq, h⟩ := Option.bind_eq_some_iff.mp h
        refine GC.callvV (rest := []) 3 rfl h0 rfl [.int v15, .int v16, .int v17, .int x2] dX9_insert_214 kk_X9_95 km_X3_setEntry.1 km_X3_setEntry.2 (ktX3_setEntry _ _ _ _ _ _ hq) rfl rfl (Nat.le_of_ble_eq_true rfl) (Nat.le_of_ble_eq_true rfl) trivial (Nat.le_of_ble_eq_true rfl) ?_
        refine GC.aload 4 dX9_insert_217 rfl ?_
        refine GC.aload_n 0 dX9_insert_219 rfl ?_
        refine GC.getr 9 3 rfl (by decide) (by decide) fw_X9_15 (Or.inl rfl) dX9_insert_220 h (fun v19 h => ?_)
        refine GoC.iload 3 dX9_insert_223 rfl ?_
        refine GC.iald dX9_insert_225 h (fun v20 h => ?_)
        refine GoC.iconst 1 dX9_insert_226 (by decide) ?_
        refine GoC.iadd dX9_insert_227 ?_
        refine GC.aload_n 0 dX9_insert_228 rfl ?_
        refine GC.geti 9 8 rfl (by decide) (by decide) fw_X9_98 (Or.inl rfl) dX9_insert_229 h (fun v21 h => ?_)
        refine GC.aload_n 0 dX9_insert_232 rfl ?_
        refine GC.geti 9 6 rfl (by decide) (by decide) fw_X9_101 (Or.inl rfl) dX9_insert_233 h (fun v22 h => ?_)
        refine GC.aload_n 0 dX9_insert_236 rfl ?_
        refine GC.geti 9 9 rfl (by decide) (by decide) fw_X9_104 (Or.inl rfl) dX9_insert_237 h (fun v23 h => ?_)
        obtain ⟨h0, h⟩ := ckd_some h
        obtain ⟨σ24, hq, h⟩ := Option.bind_eq_some_iff.mp h
        refine GC.callvV (rest := []) 3 rfl h0 rfl [.int (v20 + 1), .int v21, .int v22, .int v23] dX9_insert_240 kk_X9_78 km_X3_insertEntry.1 km_X3_insertEntry.2 (ktX3_insertEntry _ _ _ _ _ _ hq) rfl rfl (Nat.le_of_ble_eq_true rfl) (Nat.le_of_ble_eq_true rfl) trivial (Nat.le_of_ble_eq_true rfl) ?_
        refine GC.aload_n 0 dX9_insert_243 rfl ?_
        refine GC.getr 9 2 rfl (by decide) (by decide) fw_X9_9 (Or.inl rfl) dX9_insert_244 h (fun v25 h => ?_)
        refine GoC.iload 3 dX9_insert_247 rfl ?_
        refine GC.iald dX9_insert_249 h (fun v26 h => ?_)
        refine GoC.istore_n [(0, G.rv x0), (2, .int v26), (3, G.rv x3), (5, .int x5), (6, G.rv v12)] dX9_insert_250 (by decide) rfl ?_
        refine GC.aload 4 dX9_insert_251 rfl ?_
        refine GC.astore_n [(0, G.rv x0), (2, .int v26), (3, G.rv v12), (5, .int x5), (6, G.rv v12)] dX9_insert_253 (by decide) rfl ?_
        refine GoC.iinc (w := (-1)) 3 [(0, G.rv x0), (2, .int v26), (3, G.rv v12), (5, .int (x5 + (-1))), (6, G.rv v12)] dX9_insert_254 rfl (by decide) (by decide) rfl ?_
        refine GoC.goto 156 dX9_insert_257 (by decide) ?_
        refine GoC.sub [0, 1, 2, 3] rfl ?_
        exact ih _ _ _ _ _ h
set_option maxRecDepth 20000 in
theorem ksX9_insert_139 {l : Launch} {G : Gt} {n0 u0 : Nat} {Z : Hp} (x0 : Nat) (x1 : Int32) (x2 : Int32) (x3 : Nat) (x4 : Int32) (σ : Hp) (h : kX9_insert_139 x0 x1 x2 x3 x4 σ = some Z) : GoC l G RX9 "insert" cX9_insert 8 none 9 228 n0 u0 none Z 139 [(0, G.rv x0), (1, .int x1), (2, .int x2), (3, G.rv x3), (4, .int x4)] [] σ := by
  unfold kX9_insert_139 at h
  refine GC.aload_n 3 dX9_insert_139 rfl ?_
  refine GC.aload_n 3 dX9_insert_140 rfl ?_
  refine GC.geti 3 2 rfl (by decide) (by decide) fw_X9_75 (Or.inl rfl) dX9_insert_141 h (fun v27 h => ?_)
  refine GoC.iload_n 1 dX9_insert_144 rfl ?_
  refine GoC.iconst 0 dX9_insert_145 (by decide) ?_
  refine GoC.iconst (-1) dX9_insert_146 (by decide) ?_
  obtain ⟨h0, h⟩ := ckd_some h
  obtain ⟨σ28, hq, h⟩ := Option.bind_eq_some_iff.mp h
  refine GC.callvV (rest := []) 3 rfl h0 rfl [.int v27, .int x1, .int 0, .int (-1)] dX9_insert_147 kk_X9_78 km_X3_insertEntry.1 km_X3_insertEntry.2 (ktX3_insertEntry _ _ _ _ _ _ hq) rfl rfl (Nat.le_of_ble_eq_true rfl) (Nat.le_of_ble_eq_true rfl) trivial (Nat.le_of_ble_eq_true rfl) ?_
  refine GoC.iload 4 dX9_insert_150 rfl ?_
  refine GoC.iconst 1 dX9_insert_152 (by decide) ?_
  refine GoC.isub dX9_insert_153 ?_
  refine GoC.istore [(0, G.rv x0), (1, .int x1), (2, .int x2), (3, G.rv x3), (4, .int x4), (5, .int (x4 - 1))] dX9_insert_154 (by decide) rfl ?_
  refine GoC.sub [0, 2, 3, 5] rfl ?_
  exact ksX9_insert_156 _ _ _ _ _ _ h
set_option maxRecDepth 20000 in
theorem ksX9_insert_92 {l : Launch} {G : Gt} {n0 u0 : Nat} {Z : Hp} (k23 : Nat → Int32 → Int32 → Nat → Int32 → Int32 → Hp → Option (Hp)) (h23 : ∀ (x0 : Nat) (x1 : Int32) (x2 : Int32) (x3 : Nat) (x4 : Int32) (x5 : Int32) (σ : Hp), k23 x0 x1 x2 x3 x4 x5 σ = some Z → GoC l G RX9 "insert" cX9_insert 8 none 9 228 n0 u0 none Z 23 [(0, G.rv x0), (1, .int x1), (2, .int x2), (3, G.rv x3), (4, .int x4), (5, .int x5)] [] σ) (x0 : Nat) (x1 : Int32) (x2 : Int32) (x3 : Nat) (x5 : Int32) (x6 : Int32) (y0 : Nat) (y1 : Int32) (y2 : Int32) (σ : Hp) (h : kX9_insert_92 k23 x0 x1 x2 x3 x5 x6 y0 y1 y2 σ = some Z) : GoC l G RX9 "insert" cX9_insert 8 none 9 228 n0 u0 none Z 92 [(0, G.rv x0), (1, .int x1), (2, .int x2), (3, G.rv x3), (5, .int x5), (6, .int x6)] [.int y2, .int y1, G.rv y0] σ := by
  unfold kX9_insert_92 at h
  refine GC.iast dX9_insert_92 h (fun σ29 h => ?_)
  refine GC.aload_n 0 dX9_insert_93 rfl ?_
  refine GC.getr 9 2 rfl (by decide) (by decide) fw_X9_9 (Or.inl rfl) dX9_insert_94 h (fun v30 h => ?_)
  refine GoC.iload 4 dX9_insert_97 rfl ?_
  refine GoC.iload_n 2 dX9_insert_99 rfl ?_
  refine GC.iast dX9_insert_100 h (fun σ31 h => ?_)
  refine GC.aload_n 0 dX9_insert_101 rfl ?_
  refine GC.getr 9 3 rfl (by decide) (by decide) fw_X9_15 (Or.inl rfl) dX9_insert_102 h (fun v32 h => ?_)
  refine GoC.iload 4 dX9_insert_105 rfl ?_
  refine GoC.iload 5 dX9_insert_107 rfl ?_
  refine GC.iast dX9_insert_109 h (fun σ33 h => ?_)
  refine GoC.iload 4 dX9_insert_110 rfl ?_
  refine GoC.iconst 1 dX9_insert_112 (by decide) ?_
  refine GoC.iadd dX9_insert_113 ?_
  refine GoC.istore [(0, G.rv x0), (1, .int x1), (2, .int x2), (3, G.rv x3), (4, .int (x5 + 1)), (5, .int x5), (6, .int x6)] dX9_insert_114 (by decide) rfl ?_
  refine GC.aload_n 3 dX9_insert_116 rfl ?_
  refine GC.getr 3 5 rfl (by decide) (by decide) fw_X9_72 (Or.inl rfl) dX9_insert_117 h (fun v34 h => ?_)
  refine GoC.iload 6 dX9_insert_120 rfl ?_
  refine GC.iald dX9_insert_122 h (fun v35 h => ?_)
  refine GoC.istore_n [(0, G.rv x0), (1, .int x1), (2, .int v35), (3, G.rv x3), (4, .int (x5 + 1)), (5, .int x5), (6, .int x6)] dX9_insert_123 (by decide) rfl ?_
  refine GC.aload_n 0 dX9_insert_124 rfl ?_
  refine GC.getr 9 0 rfl (by decide) (by decide) fw_X9_22 (Or.inl rfl) dX9_insert_125 h (fun v36 h => ?_)
  refine GoC.iload_n 2 dX9_insert_128 rfl ?_
  obtain ⟨h0, h⟩ := ckd_some h
  obtain ⟨v37, hq, h⟩ := Option.bind_eq_some_iff.mp h
  refine GC.callvR (rest := []) 7 rfl h0 rfl [.int v35] dX9_insert_129 kk_X9_46 km_X7_at.1 km_X7_at.2 (ktX7_at _ _ _ hq) rfl rfl (Nat.le_of_ble_eq_true rfl) (Nat.le_of_ble_eq_true rfl) trivial (Nat.le_of_ble_eq_true rfl) ?_
  refine GC.astore_n [(0, G.rv x0), (1, .int x1), (2, .int v35), (3, G.rv v37), (4, .int (x5 + 1)), (5, .int x5), (6, .int x6)] dX9_insert_132 (by decide) rfl ?_
  refine GoC.iinc (w := 1) 5 [(0, G.rv x0), (1, .int x1), (2, .int v35), (3, G.rv v37), (4, .int (x5 + 1)), (5, .int (x5 + 1)), (6, .int x6)] dX9_insert_133 rfl (by decide) (by decide) rfl ?_
  refine GoC.goto 23 dX9_insert_136 (by decide) ?_
  refine GoC.sub [0, 1, 2, 3, 4, 5] rfl ?_
  exact h23 _ _ _ _ _ _ _ h
set_option maxRecDepth 20000 in
theorem ksX9_insert_23 {l : Launch} {G : Gt} {n0 u0 : Nat} {Z : Hp} (n : Nat) : ∀ (x0 : Nat) (x1 : Int32) (x2 : Int32) (x3 : Nat) (x4 : Int32) (x5 : Int32) (σ : Hp), kX9_insert_23 n x0 x1 x2 x3 x4 x5 σ = some Z → GoC l G RX9 "insert" cX9_insert 8 none 9 228 n0 u0 none Z 23 [(0, G.rv x0), (1, .int x1), (2, .int x2), (3, G.rv x3), (4, .int x4), (5, .int x5)] [] σ := by
  induction n with
  | zero => intro x0 x1 x2 x3 x4 x5 σ h; rw [kX9_insert_23] at h; cases h
  | succ n ih =>
    intro x0 x1 x2 x3 x4 x5 σ h
    rw [kX9_insert_23] at h
    refine GoC.iload 5 dX9_insert_23 rfl ?_
    refine GoC.bipush 40 dX9_insert_25 (by decide) ?_
    refine GoC.icmp_ge 139 dX9_insert_27 (by decide) h (fun h => ?_) (fun h => ?_)
    · refine GoC.sub [0, 1, 2, 3, 4] rfl ?_
      exact ksX9_insert_139 _ _ _ _ _ _ h
    · refine GC.aload_n 3 dX9_insert_30 rfl ?_
      refine GC.geti 3 0 rfl (by decide) (by decide) fw_X9_50 (Or.inl rfl) dX9_insert_31 h (fun v38 h => ?_)
      refine GoC.if_ne 139 dX9_insert_34 (by decide) h (fun h => ?_) (fun h => ?_)
      · refine GoC.sub [0, 1, 2, 3, 4] rfl ?_
        exact ksX9_insert_139 _ _ _ _ _ _ h
      · refine GC.aload_n 0 dX9_insert_37 rfl ?_
        refine GC.aload_n 3 dX9_insert_38 rfl ?_
        refine GoC.iload_n 1 dX9_insert_39 rfl ?_
        obtain ⟨h0, h⟩ := ckd_some h
        obtain ⟨v39, hq, h⟩ := Option.bind_eq_some_iff.mp h
        refine GC.callvI (rest := []) 9 rfl h0 rfl [G.rv x3, .int x1] dX9_insert_40 kk_X9_56 km_X9_entryFor.1 km_X9_entryFor.2 (ktX9_entryFor _ _ _ _ hq) rfl rfl (Nat.le_of_ble_eq_true rfl) (Nat.le_of_ble_eq_true rfl) trivial (Nat.le_of_ble_eq_true rfl) ?_
        refine GoC.istore [(0, G.rv x0), (1, .int x1), (2, .int x2), (3, G.rv x3), (4, .int x4), (5, .int x5), (6, .int v39)] dX9_insert_43 (by decide) rfl ?_
        refine GC.aload_n 0 dX9_insert_45 rfl ?_
        refine GC.getr 9 1 rfl (by decide) (by decide) fw_X9_26 (Or.inl rfl) dX9_insert_46 h (fun v40 h => ?_)
        refine GC.aload_n 3 dX9_insert_49 rfl ?_
        refine GC.getr 3 3 rfl (by decide) (by decide) fw_X9_60 (Or.inl rfl) dX9_insert_50 h (fun v41 h => ?_)
        refine GoC.iload 6 dX9_insert_53 rfl ?_
        refine GC.iald dX9_insert_55 h (fun v42 h => ?_)
        refine GoC.iload_n 1 dX9_insert_56 rfl ?_
        obtain ⟨h0, h⟩ := ckd_some h
        obtain ⟨v43, hq, h⟩ := Option.bind_eq_some_iff.mp h
        refine GC.callvI (rest := []) 1 rfl h0 rfl [.int v42, .int x1] dX9_insert_57 kk_X9_63 km_X1_of.1 km_X1_of.2 (ktX1_of _ _ _ _ hq) rfl rfl (Nat.le_of_ble_eq_true rfl) (Nat.le_of_ble_eq_true rfl) trivial (Nat.le_of_ble_eq_true rfl) ?_
        refine GoC.istore [(0, G.rv x0), (1, .int x1), (2, .int x2), (3, G.rv x3), (4, .int x4), (5, .int x5), (6, .int v39), (7, .int v43)] dX9_insert_60 (by decide) rfl ?_
        refine GC.aload_n 3 dX9_insert_62 rfl ?_
        refine GC.getr 3 4 rfl (by decide) (by decide) fw_X9_69 (Or.inl rfl) dX9_insert_63 h (fun v44 h => ?_)
        refine GoC.iload 6 dX9_insert_66 rfl ?_
        refine GoC.iload 7 dX9_insert_68 rfl ?_
        refine GC.aload_n 3 dX9_insert_70 rfl ?_
        refine GC.getr 3 4 rfl (by decide) (by decide) fw_X9_69 (Or.inl rfl) dX9_insert_71 h (fun v45 h => ?_)
        refine GoC.iload 6 dX9_insert_74 rfl ?_
        refine GC.iald dX9_insert_76 h (fun v46 h => ?_)
        refine GoC.icmp_le 85 dX9_insert_77 (by decide) h (fun h => ?_) (fun h => ?_)
        · refine GC.aload_n 3 dX9_insert_85 rfl ?_
          refine GC.getr 3 4 rfl (by decide) (by decide) fw_X9_69 (Or.inl rfl) dX9_insert_86 h (fun v47 h => ?_)
          refine GoC.iload 6 dX9_insert_89 rfl ?_
          refine GC.iald dX9_insert_91 h (fun v48 h => ?_)
          refine GoC.sub [0, 1, 2, 3, 5, 6] rfl ?_
          exact ksX9_insert_92 _ ih _ _ _ _ _ _ _ _ _ _ h
        · refine GoC.iload 7 dX9_insert_80 rfl ?_
          refine GoC.goto 92 dX9_insert_82 (by decide) ?_
          refine GoC.sub [0, 1, 2, 3, 5, 6] rfl ?_
          exact ksX9_insert_92 _ ih _ _ _ _ _ _ _ _ _ _ h
set_option maxRecDepth 20000 in
theorem ksX9_insert {l : Launch} {G : Gt} {n0 u0 : Nat} {σ : Hp} {Z : Hp} (x0 : Nat) (x1 : Int32) (h : kX9_insert σ x0 x1 = some Z) : GoC l G RX9 "insert" cX9_insert 8 none 9 228 n0 u0 none Z 0 [(0, G.rv x0), (1, .int x1)] [] σ := by
  unfold kX9_insert at h
  refine GC.aload_n 0 dX9_insert_0 rfl ?_
  refine GC.getr 9 0 rfl (by decide) (by decide) fw_X9_22 (Or.inl rfl) dX9_insert_1 h (fun v49 h => ?_)
  refine GC.geti 7 10 rfl (by decide) (by decide) fw_X9_42 (Or.inl rfl) dX9_insert_4 h (fun v50 h => ?_)
  refine GoC.istore_n [(0, G.rv x0), (1, .int x1), (2, .int v50)] dX9_insert_7 (by decide) rfl ?_
  refine GC.aload_n 0 dX9_insert_8 rfl ?_
  refine GC.getr 9 0 rfl (by decide) (by decide) fw_X9_22 (Or.inl rfl) dX9_insert_9 h (fun v51 h => ?_)
  refine GoC.iload_n 2 dX9_insert_12 rfl ?_
  obtain ⟨h0, h⟩ := ckd_some h
  obtain ⟨v52, hq, h⟩ := Option.bind_eq_some_iff.mp h
  refine GC.callvR (rest := []) 7 rfl h0 rfl [.int v50] dX9_insert_13 kk_X9_46 km_X7_at.1 km_X7_at.2 (ktX7_at _ _ _ hq) rfl rfl (Nat.le_of_ble_eq_true rfl) (Nat.le_of_ble_eq_true rfl) trivial (Nat.le_of_ble_eq_true rfl) ?_
  refine GC.astore_n [(0, G.rv x0), (1, .int x1), (2, .int v50), (3, G.rv v52)] dX9_insert_16 (by decide) rfl ?_
  refine GoC.iconst 0 dX9_insert_17 (by decide) ?_
  refine GoC.istore [(0, G.rv x0), (1, .int x1), (2, .int v50), (3, G.rv v52), (4, .int 0)] dX9_insert_18 (by decide) rfl ?_
  refine GoC.iconst 0 dX9_insert_20 (by decide) ?_
  refine GoC.istore [(0, G.rv x0), (1, .int x1), (2, .int v50), (3, G.rv v52), (4, .int 0), (5, .int 0)] dX9_insert_21 (by decide) rfl ?_
  exact ksX9_insert_23 _ _ _ _ _ _ _ _ h
set_option maxRecDepth 20000 in
theorem ktX9_insert {l : Launch} {G : Gt} {σ : Hp} (x0 : Nat) (x1 : Int32) : ∀ Z, kX9_insert σ x0 x1 = some Z → MtC l G yX9_insert cX9_insert 8 none 9 228 [G.rv x0, .int x1] σ none Z := fun Z h => MtC.at (by decide +kernel) ⟨G.rv_cat _, rfl, trivial⟩ (Nat.le_of_ble_eq_true rfl) (ksX9_insert x0 x1 h)
/-! X9_buildAnew -/
def kX9_buildAnew_32 (k9 : Nat → Int32 → Hp → Option (Hp)) (x0 : Nat) (x1 : Int32) (σ : Hp) : Option (Hp) := k9 x0 (x1 + 1) σ
def kX9_buildAnew_9  : Nat → Nat → Int32 → Hp → Option (Hp)
  | 0, _, _, _ => none
  | n + 1, x0, x1, σ => if 40 ≤ x1 then some σ else (gfr σ 19 900 x0).bind (fun v1 => (gfr σ 17 700 v1).bind (fun v2 => (ald σ 1 v2 x1).bind (fun v3 => if v3 = 0 then kX9_buildAnew_32 (kX9_buildAnew_9 n) x0 x1 σ else ckd σ x0 19 ((kX9_insert σ x0 x1).bind (fun σ4 => kX9_buildAnew_32 (kX9_buildAnew_9 n) x0 x1 σ4)))))
def kX9_buildAnew (σ : Hp) (x0 : Nat) : Option (Hp) := (gfr σ 19 900 x0).bind (fun v5 => ckd σ v5 17 ((kX7_clearPages σ v5).bind (fun σ6 => kX9_buildAnew_9 FU x0 0 σ6)))
set_option maxRecDepth 20000 in
theorem ksX9_buildAnew_32 {l : Launch} {G : Gt} {n0 u0 : Nat} {Z : Hp} (k9 : Nat → Int32 → Hp → Option (Hp)) (h9 : ∀ (x0 : Nat) (x1 : Int32) (σ : Hp), k9 x0 x1 σ = some Z → GoC l G RX9 "buildAnew" cX9_buildAnew 2 none 10 255 n0 u0 none Z 9 [(0, G.rv x0), (1, .int x1)] [] σ) (x0 : Nat) (x1 : Int32) (σ : Hp) (h : kX9_buildAnew_32 k9 x0 x1 σ = some Z) : GoC l G RX9 "buildAnew" cX9_buildAnew 2 none 10 255 n0 u0 none Z 32 [(0, G.rv x0), (1, .int x1)] [] σ := by
  unfold kX9_buildAnew_32 at h
  refine GoC.iinc (w := 1) 1 [(0, G.rv x0), (1, .int (x1 + 1))] dX9_buildAnew_32 rfl (by decide) (by decide) rfl ?_
  refine GoC.goto 9 dX9_buildAnew_35 (by decide) ?_
  exact h9 _ _ _ h
set_option maxRecDepth 20000 in
theorem ksX9_buildAnew_9 {l : Launch} {G : Gt} {n0 u0 : Nat} {Z : Hp} (n : Nat) : ∀ (x0 : Nat) (x1 : Int32) (σ : Hp), kX9_buildAnew_9 n x0 x1 σ = some Z → GoC l G RX9 "buildAnew" cX9_buildAnew 2 none 10 255 n0 u0 none Z 9 [(0, G.rv x0), (1, .int x1)] [] σ := by
  induction n with
  | zero => intro x0 x1 σ h; rw [kX9_buildAnew_9] at h; cases h
  | succ n ih =>
    intro x0 x1 σ h
    rw [kX9_buildAnew_9] at h
    refine GoC.iload_n 1 dX9_buildAnew_9 rfl ?_
    refine GoC.bipush 40 dX9_buildAnew_10 (by decide) ?_
    refine GoC.icmp_ge 38 dX9_buildAnew_12 (by decide) h (fun h => ?_) (fun h => ?_)
    · cases h
      exact GoC.vret dX9_buildAnew_38 rfl
    · refine GC.aload_n 0 dX9_buildAnew_15 rfl ?_
      refine GC.getr 9 0 rfl (by decide) (by decide) fw_X9_22 (Or.inl rfl) dX9_buildAnew_16 h (fun v1 h => ?_)
      refine GC.getr 7 0 rfl (by decide) (by decide) fw_X9_35 (Or.inl rfl) dX9_buildAnew_19 h (fun v2 h => ?_)
      refine GoC.iload_n 1 dX9_buildAnew_22 rfl ?_
      refine GC.iald dX9_buildAnew_23 h (fun v3 h => ?_)
      refine GoC.if_eq 32 dX9_buildAnew_24 (by decide) h (fun h => ?_) (fun h => ?_)
      · exact ksX9_buildAnew_32 _ ih _ _ _ h
      · refine GC.aload_n 0 dX9_buildAnew_27 rfl ?_
        refine GoC.iload_n 1 dX9_buildAnew_28 rfl ?_
        obtain ⟨h0, h⟩ := ckd_some h
        obtain ⟨σ4, hq, h⟩ := Option.bind_eq_some_iff.mp h
        refine GC.callvV (rest := []) 9 rfl h0 rfl [.int x1] dX9_buildAnew_29 kk_X9_38 km_X9_insert.1 km_X9_insert.2 (ktX9_insert _ _ _ hq) rfl rfl (Nat.le_of_ble_eq_true rfl) (Nat.le_of_ble_eq_true rfl) trivial (Nat.le_of_ble_eq_true rfl) ?_
        exact ksX9_buildAnew_32 _ ih _ _ _ h
set_option maxRecDepth 20000 in
theorem ksX9_buildAnew {l : Launch} {G : Gt} {n0 u0 : Nat} {σ : Hp} {Z : Hp} (x0 : Nat) (h : kX9_buildAnew σ x0 = some Z) : GoC l G RX9 "buildAnew" cX9_buildAnew 2 none 10 255 n0 u0 none Z 0 [(0, G.rv x0)] [] σ := by
  unfold kX9_buildAnew at h
  refine GC.aload_n 0 dX9_buildAnew_0 rfl ?_
  refine GC.getr 9 0 rfl (by decide) (by decide) fw_X9_22 (Or.inl rfl) dX9_buildAnew_1 h (fun v5 h => ?_)
  obtain ⟨h0, h⟩ := ckd_some h
  obtain ⟨σ6, hq, h⟩ := Option.bind_eq_some_iff.mp h
  refine GC.callvV (rest := []) 7 rfl h0 rfl [] dX9_buildAnew_4 kk_X9_30 km_X7_clearPages.1 km_X7_clearPages.2 (ktX7_clearPages _ _ hq) rfl rfl (Nat.le_of_ble_eq_true rfl) (Nat.le_of_ble_eq_true rfl) trivial (Nat.le_of_ble_eq_true rfl) ?_
  refine GoC.iconst 0 dX9_buildAnew_7 (by decide) ?_
  refine GoC.istore_n [(0, G.rv x0), (1, .int 0)] dX9_buildAnew_8 (by decide) rfl ?_
  exact ksX9_buildAnew_9 _ _ _ _ h
set_option maxRecDepth 20000 in
theorem ktX9_buildAnew {l : Launch} {G : Gt} {σ : Hp} (x0 : Nat) : ∀ Z, kX9_buildAnew σ x0 = some Z → MtC l G yX9_buildAnew cX9_buildAnew 2 none 10 255 [G.rv x0] σ none Z := fun Z h => MtC.at (by decide +kernel) ⟨G.rv_cat _, trivial⟩ (Nat.le_of_ble_eq_true rfl) (ksX9_buildAnew x0 h)
/-! X9_hasCentre -/
def kX9_hasCentre_40 (σ : Hp) (k2 : Nat → Int32 → Int32 → Option (Int32)) (x0 : Nat) (x1 : Int32) (x2 : Int32) : Option (Int32) := k2 x0 x1 (x2 + 1)
def kX9_hasCentre_2 (σ : Hp)  : Nat → Nat → Int32 → Int32 → Option (Int32)
  | 0, _, _, _ => none
  | n + 1, x0, x1, x2 => (gfr σ 19 900 x0).bind (fun v1 => (gfi σ 17 709 v1).bind (fun v2 => if v2 ≤ x2 then zb 0 else (gfr σ 19 900 x0).bind (fun v3 => ckd σ v3 17 ((kX7_at σ v3 x2).bind (fun v4 => (gfi σ 13 300 v4).bind (fun v5 => if v5 = 0 then ckd σ v4 13 ((kX3_placeIn σ v4 x1).bind (fun v6 => if v6 = (-1) then kX9_hasCentre_40 σ (kX9_hasCentre_2 σ n) x0 x1 x2 else zb 1)) else kX9_hasCentre_40 σ (kX9_hasCentre_2 σ n) x0 x1 x2))))))
def kX9_hasCentre (σ : Hp) (x0 : Nat) (x1 : Int32) : Option (Int32) := kX9_hasCentre_2 σ FU x0 x1 0
set_option maxRecDepth 20000 in
theorem ksX9_hasCentre_40 {l : Launch} {G : Gt} {n0 u0 : Nat} {σ : Hp} {Z : Int32} (k2 : Nat → Int32 → Int32 → Option (Int32)) (h2 : ∀ (x0 : Nat) (x1 : Int32) (x2 : Int32), k2 x0 x1 x2 = some Z → GoC l G RX9 "hasCentre" cX9_hasCentre 4 (some .boolean) 4 85 n0 u0 (some (.int Z)) σ 2 [(0, G.rv x0), (1, .int x1), (2, .int x2)] [] σ) (x0 : Nat) (x1 : Int32) (x2 : Int32) (h : kX9_hasCentre_40 σ k2 x0 x1 x2 = some Z) : GoC l G RX9 "hasCentre" cX9_hasCentre 4 (some .boolean) 4 85 n0 u0 (some (.int Z)) σ 40 [(0, G.rv x0), (1, .int x1), (2, .int x2)] [] σ := by
  unfold kX9_hasCentre_40 at h
  refine GoC.iinc (w := 1) 2 [(0, G.rv x0), (1, .int x1), (2, .int (x2 + 1))] dX9_hasCentre_40 rfl (by decide) (by decide) rfl ?_
  refine GoC.goto 2 dX9_hasCentre_43 (by decide) ?_
  exact h2 _ _ _ h
set_option maxRecDepth 20000 in
theorem ksX9_hasCentre_2 {l : Launch} {G : Gt} {n0 u0 : Nat} {σ : Hp} {Z : Int32} (n : Nat) : ∀ (x0 : Nat) (x1 : Int32) (x2 : Int32), kX9_hasCentre_2 σ n x0 x1 x2 = some Z → GoC l G RX9 "hasCentre" cX9_hasCentre 4 (some .boolean) 4 85 n0 u0 (some (.int Z)) σ 2 [(0, G.rv x0), (1, .int x1), (2, .int x2)] [] σ := by
  induction n with
  | zero => intro x0 x1 x2 h; rw [kX9_hasCentre_2] at h; cases h
  | succ n ih =>
    intro x0 x1 x2 h
    rw [kX9_hasCentre_2] at h
    refine GoC.iload_n 2 dX9_hasCentre_2 rfl ?_
    refine GC.aload_n 0 dX9_hasCentre_3 rfl ?_
    refine GC.getr 9 0 rfl (by decide) (by decide) fw_X9_22 (Or.inl rfl) dX9_hasCentre_4 h (fun v1 h => ?_)
    refine GC.geti 7 9 rfl (by decide) (by decide) fw_X9_125 (Or.inl rfl) dX9_hasCentre_7 h (fun v2 h => ?_)
    refine GoC.icmp_ge 46 dX9_hasCentre_10 (by decide) h (fun h => ?_) (fun h => ?_)
    · refine GoC.iconst 0 dX9_hasCentre_46 (by decide) ?_
      exact GoC.zret dX9_hasCentre_47 rfl h
    · refine GC.aload_n 0 dX9_hasCentre_13 rfl ?_
      refine GC.getr 9 0 rfl (by decide) (by decide) fw_X9_22 (Or.inl rfl) dX9_hasCentre_14 h (fun v3 h => ?_)
      refine GoC.iload_n 2 dX9_hasCentre_17 rfl ?_
      obtain ⟨h0, h⟩ := ckd_some h
      obtain ⟨v4, hq, h⟩ := Option.bind_eq_some_iff.mp h
      refine GC.callvR (rest := []) 7 rfl h0 rfl [.int x2] dX9_hasCentre_18 kk_X9_46 km_X7_at.1 km_X7_at.2 (ktX7_at _ _ _ hq) rfl rfl (Nat.le_of_ble_eq_true rfl) (Nat.le_of_ble_eq_true rfl) trivial (Nat.le_of_ble_eq_true rfl) ?_
      refine GC.astore_n [(0, G.rv x0), (1, .int x1), (2, .int x2), (3, G.rv v4)] dX9_hasCentre_21 (by decide) rfl ?_
      refine GC.aload_n 3 dX9_hasCentre_22 rfl ?_
      refine GC.geti 3 0 rfl (by decide) (by decide) fw_X9_50 (Or.inl rfl) dX9_hasCentre_23 h (fun v5 h => ?_)
      refine GoC.if_ne 40 dX9_hasCentre_26 (by decide) h (fun h => ?_) (fun h => ?_)
      · refine GoC.sub [0, 1, 2] rfl ?_
        exact ksX9_hasCentre_40 _ ih _ _ _ h
      · refine GC.aload_n 3 dX9_hasCentre_29 rfl ?_
        refine GoC.iload_n 1 dX9_hasCentre_30 rfl ?_
        obtain ⟨h0, h⟩ := ckd_some h
        obtain ⟨v6, hq, h⟩ := Option.bind_eq_some_iff.mp h
        refine GC.callvI (rest := []) 3 rfl h0 rfl [.int x1] dX9_hasCentre_31 kk_X9_128 km_X3_placeIn.1 km_X3_placeIn.2 (ktX3_placeIn _ _ _ hq) rfl rfl (Nat.le_of_ble_eq_true rfl) (Nat.le_of_ble_eq_true rfl) trivial (Nat.le_of_ble_eq_true rfl) ?_
        refine GoC.iconst (-1) dX9_hasCentre_34 (by decide) ?_
        refine GoC.icmp_eq 40 dX9_hasCentre_35 (by decide) h (fun h => ?_) (fun h => ?_)
        · refine GoC.sub [0, 1, 2] rfl ?_
          exact ksX9_hasCentre_40 _ ih _ _ _ h
        · refine GoC.iconst 1 dX9_hasCentre_38 (by decide) ?_
          exact GoC.zret dX9_hasCentre_39 rfl h
set_option maxRecDepth 20000 in
theorem ksX9_hasCentre {l : Launch} {G : Gt} {n0 u0 : Nat} {σ : Hp} {Z : Int32} (x0 : Nat) (x1 : Int32) (h : kX9_hasCentre σ x0 x1 = some Z) : GoC l G RX9 "hasCentre" cX9_hasCentre 4 (some .boolean) 4 85 n0 u0 (some (.int Z)) σ 0 [(0, G.rv x0), (1, .int x1)] [] σ := by
  unfold kX9_hasCentre at h
  refine GoC.iconst 0 dX9_hasCentre_0 (by decide) ?_
  refine GoC.istore_n [(0, G.rv x0), (1, .int x1), (2, .int 0)] dX9_hasCentre_1 (by decide) rfl ?_
  exact ksX9_hasCentre_2 _ _ _ _ h
set_option maxRecDepth 20000 in
theorem ktX9_hasCentre {l : Launch} {G : Gt} {σ : Hp} (x0 : Nat) (x1 : Int32) : ∀ Z, kX9_hasCentre σ x0 x1 = some Z → MtC l G yX9_hasCentre cX9_hasCentre 4 (some .boolean) 4 85 [G.rv x0, .int x1] σ (some (.int Z)) σ := fun Z h => MtC.at (by decide +kernel) ⟨G.rv_cat _, rfl, trivial⟩ (Nat.le_of_ble_eq_true rfl) (ksX9_hasCentre x0 x1 h)
/-! X9_takeFromLeaf -/
def kX9_takeFromLeaf_38 (k2 : Nat → Int32 → Int32 → Hp → Option (Hp)) (x0 : Nat) (x1 : Int32) (x2 : Int32) (x3 : Nat) (y0 : Int32) (σ : Hp) : Option (Hp) := if y0 = (-1) then k2 x0 x1 (x2 + 1) σ else ckd σ x3 13 ((kX3_removeEntry σ x3 y0).bind (fun σ1 => some σ1))
def kX9_takeFromLeaf_2  : Nat → Nat → Int32 → Int32 → Hp → Option (Hp)
  | 0, _, _, _, _ => none
  | n + 1, x0, x1, x2, σ => (gfr σ 19 900 x0).bind (fun v2 => (gfi σ 17 709 v2).bind (fun v3 => if v3 ≤ x2 then some σ else (gfr σ 19 900 x0).bind (fun v4 => ckd σ v4 17 ((kX7_at σ v4 x2).bind (fun v5 => (gfi σ 13 300 v5).bind (fun v6 => if v6 = 0 then kX9_takeFromLeaf_38 (kX9_takeFromLeaf_2 n) x0 x1 x2 v5 (-1) σ else ckd σ v5 13 ((kX3_placeIn σ v5 x1).bind (fun v7 => kX9_takeFromLeaf_38 (kX9_takeFromLeaf_2 n) x0 x1 x2 v5 v7 σ))))))))
def kX9_takeFromLeaf (σ : Hp) (x0 : Nat) (x1 : Int32) : Option (Hp) := kX9_takeFromLeaf_2 FU x0 x1 0 σ
set_option maxRecDepth 20000 in
theorem ksX9_takeFromLeaf_38 {l : Launch} {G : Gt} {n0 u0 : Nat} {Z : Hp} (k2 : Nat → Int32 → Int32 → Hp → Option (Hp)) (h2 : ∀ (x0 : Nat) (x1 : Int32) (x2 : Int32) (σ : Hp), k2 x0 x1 x2 σ = some Z → GoC l G RX9 "takeFromLeaf" cX9_takeFromLeaf 5 none 4 85 n0 u0 none Z 2 [(0, G.rv x0), (1, .int x1), (2, .int x2)] [] σ) (x0 : Nat) (x1 : Int32) (x2 : Int32) (x3 : Nat) (y0 : Int32) (σ : Hp) (h : kX9_takeFromLeaf_38 k2 x0 x1 x2 x3 y0 σ = some Z) : GoC l G RX9 "takeFromLeaf" cX9_takeFromLeaf 5 none 4 85 n0 u0 none Z 38 [(0, G.rv x0), (1, .int x1), (2, .int x2), (3, G.rv x3)] [.int y0] σ := by
  unfold kX9_takeFromLeaf_38 at h
  refine GoC.istore [(0, G.rv x0), (1, .int x1), (2, .int x2), (3, G.rv x3), (4, .int y0)] dX9_takeFromLeaf_38 (by decide) rfl ?_
  refine GoC.iload 4 dX9_takeFromLeaf_40 rfl ?_
  refine GoC.iconst (-1) dX9_takeFromLeaf_42 (by decide) ?_
  refine GoC.icmp_eq 53 dX9_takeFromLeaf_43 (by decide) h (fun h => ?_) (fun h => ?_)
  · refine GoC.iinc (w := 1) 2 [(0, G.rv x0), (1, .int x1), (2, .int (x2 + 1)), (3, G.rv x3), (4, .int y0)] dX9_takeFromLeaf_53 rfl (by decide) (by decide) rfl ?_
    refine GoC.goto 2 dX9_takeFromLeaf_56 (by decide) ?_
    refine GoC.sub [0, 1, 2] rfl ?_
    exact h2 _ _ _ _ h
  · refine GC.aload_n 3 dX9_takeFromLeaf_46 rfl ?_
    refine GoC.iload 4 dX9_takeFromLeaf_47 rfl ?_
    obtain ⟨h0, h⟩ := ckd_some h
    obtain ⟨σ1, hq, h⟩ := Option.bind_eq_some_iff.mp h
    refine GC.callvV (rest := []) 3 rfl h0 rfl [.int y0] dX9_takeFromLeaf_49 kk_X9_132 km_X3_removeEntry.1 km_X3_removeEntry.2 (ktX3_removeEntry _ _ _ hq) rfl rfl (Nat.le_of_ble_eq_true rfl) (Nat.le_of_ble_eq_true rfl) trivial (Nat.le_of_ble_eq_true rfl) ?_
    cases h
    exact GoC.vret dX9_takeFromLeaf_52 rfl
set_option maxRecDepth 20000 in
theorem ksX9_takeFromLeaf_2 {l : Launch} {G : Gt} {n0 u0 : Nat} {Z : Hp} (n : Nat) : ∀ (x0 : Nat) (x1 : Int32) (x2 : Int32) (σ : Hp), kX9_takeFromLeaf_2 n x0 x1 x2 σ = some Z → GoC l G RX9 "takeFromLeaf" cX9_takeFromLeaf 5 none 4 85 n0 u0 none Z 2 [(0, G.rv x0), (1, .int x1), (2, .int x2)] [] σ := by
  induction n with
  | zero => intro x0 x1 x2 σ h; rw [kX9_takeFromLeaf_2] at h; cases h
  | succ n ih =>
    intro x0 x1 x2 σ h
    rw [kX9_takeFromLeaf_2] at h
    refine GoC.iload_n 2 dX9_takeFromLeaf_2 rfl ?_
    refine GC.aload_n 0 dX9_takeFromLeaf_3 rfl ?_
    refine GC.getr 9 0 rfl (by decide) (by decide) fw_X9_22 (Or.inl rfl) dX9_takeFromLeaf_4 h (fun v2 h => ?_)
    refine GC.geti 7 9 rfl (by decide) (by decide) fw_X9_125 (Or.inl rfl) dX9_takeFromLeaf_7 h (fun v3 h => ?_)
    refine GoC.icmp_ge 59 dX9_takeFromLeaf_10 (by decide) h (fun h => ?_) (fun h => ?_)
    · cases h
      exact GoC.vret dX9_takeFromLeaf_59 rfl
    · refine GC.aload_n 0 dX9_takeFromLeaf_13 rfl ?_
      refine GC.getr 9 0 rfl (by decide) (by decide) fw_X9_22 (Or.inl rfl) dX9_takeFromLeaf_14 h (fun v4 h => ?_)
      refine GoC.iload_n 2 dX9_takeFromLeaf_17 rfl ?_
      obtain ⟨h0, h⟩ := ckd_some h
      obtain ⟨v5, hq, h⟩ := Option.bind_eq_some_iff.mp h
      refine GC.callvR (rest := []) 7 rfl h0 rfl [.int x2] dX9_takeFromLeaf_18 kk_X9_46 km_X7_at.1 km_X7_at.2 (ktX7_at _ _ _ hq) rfl rfl (Nat.le_of_ble_eq_true rfl) (Nat.le_of_ble_eq_true rfl) trivial (Nat.le_of_ble_eq_true rfl) ?_
      refine GC.astore_n [(0, G.rv x0), (1, .int x1), (2, .int x2), (3, G.rv v5)] dX9_takeFromLeaf_21 (by decide) rfl ?_
      refine GC.aload_n 3 dX9_takeFromLeaf_22 rfl ?_
      refine GC.geti 3 0 rfl (by decide) (by decide) fw_X9_50 (Or.inl rfl) dX9_takeFromLeaf_23 h (fun v6 h => ?_)
      refine GoC.if_eq 37 dX9_takeFromLeaf_26 (by decide) h (fun h => ?_) (fun h => ?_)
      · refine GoC.iconst (-1) dX9_takeFromLeaf_37 (by decide) ?_
        exact ksX9_takeFromLeaf_38 _ ih _ _ _ _ _ _ h
      · refine GC.aload_n 3 dX9_takeFromLeaf_29 rfl ?_
        refine GoC.iload_n 1 dX9_takeFromLeaf_30 rfl ?_
        obtain ⟨h0, h⟩ := ckd_some h
        obtain ⟨v7, hq, h⟩ := Option.bind_eq_some_iff.mp h
        refine GC.callvI (rest := []) 3 rfl h0 rfl [.int x1] dX9_takeFromLeaf_31 kk_X9_128 km_X3_placeIn.1 km_X3_placeIn.2 (ktX3_placeIn _ _ _ hq) rfl rfl (Nat.le_of_ble_eq_true rfl) (Nat.le_of_ble_eq_true rfl) trivial (Nat.le_of_ble_eq_true rfl) ?_
        refine GoC.goto 38 dX9_takeFromLeaf_34 (by decide) ?_
        exact ksX9_takeFromLeaf_38 _ ih _ _ _ _ _ _ h
set_option maxRecDepth 20000 in
theorem ksX9_takeFromLeaf {l : Launch} {G : Gt} {n0 u0 : Nat} {σ : Hp} {Z : Hp} (x0 : Nat) (x1 : Int32) (h : kX9_takeFromLeaf σ x0 x1 = some Z) : GoC l G RX9 "takeFromLeaf" cX9_takeFromLeaf 5 none 4 85 n0 u0 none Z 0 [(0, G.rv x0), (1, .int x1)] [] σ := by
  unfold kX9_takeFromLeaf at h
  refine GoC.iconst 0 dX9_takeFromLeaf_0 (by decide) ?_
  refine GoC.istore_n [(0, G.rv x0), (1, .int x1), (2, .int 0)] dX9_takeFromLeaf_1 (by decide) rfl ?_
  exact ksX9_takeFromLeaf_2 _ _ _ _ _ h
set_option maxRecDepth 20000 in
theorem ktX9_takeFromLeaf {l : Launch} {G : Gt} {σ : Hp} (x0 : Nat) (x1 : Int32) : ∀ Z, kX9_takeFromLeaf σ x0 x1 = some Z → MtC l G yX9_takeFromLeaf cX9_takeFromLeaf 5 none 4 85 [G.rv x0, .int x1] σ none Z := fun Z h => MtC.at (by decide +kernel) ⟨G.rv_cat _, rfl, trivial⟩ (Nat.le_of_ble_eq_true rfl) (ksX9_takeFromLeaf x0 x1 h)
/-! X9_countLeaves -/
def kX9_countLeaves_35 (σ : Hp) (k4 : Nat → Int32 → Int32 → Option (Int32)) (x0 : Nat) (x2 : Int32) (y0 : Int32) (y1 : Int32) : Option (Int32) := k4 x0 (y0 + y1) (x2 + 1)
def kX9_countLeaves_4 (σ : Hp)  : Nat → Nat → Int32 → Int32 → Option (Int32)
  | 0, _, _, _ => none
  | n + 1, x0, x1, x2 => (gfr σ 19 900 x0).bind (fun v1 => (gfi σ 17 709 v1).bind (fun v2 => if v2 ≤ x2 then some x1 else (gfr σ 19 900 x0).bind (fun v3 => ckd σ v3 17 ((kX7_at σ v3 x2).bind (fun v4 => (gfi σ 13 300 v4).bind (fun v5 => if v5 = 0 then kX9_countLeaves_35 σ (kX9_countLeaves_4 σ n) x0 x2 x1 0 else kX9_countLeaves_35 σ (kX9_countLeaves_4 σ n) x0 x2 x1 1))))))
def kX9_countLeaves (σ : Hp) (x0 : Nat) : Option (Int32) := kX9_countLeaves_4 σ FU x0 0 0
set_option maxRecDepth 20000 in
theorem ksX9_countLeaves_35 {l : Launch} {G : Gt} {n0 u0 : Nat} {σ : Hp} {Z : Int32} (k4 : Nat → Int32 → Int32 → Option (Int32)) (h4 : ∀ (x0 : Nat) (x1 : Int32) (x2 : Int32), k4 x0 x1 x2 = some Z → GoC l G RX9 "countLeaves" cX9_countLeaves 3 (some .int) 4 85 n0 u0 (some (.int Z)) σ 4 [(0, G.rv x0), (1, .int x1), (2, .int x2)] [] σ) (x0 : Nat) (x2 : Int32) (y0 : Int32) (y1 : Int32) (h : kX9_countLeaves_35 σ k4 x0 x2 y0 y1 = some Z) : GoC l G RX9 "countLeaves" cX9_countLeaves 3 (some .int) 4 85 n0 u0 (some (.int Z)) σ 35 [(0, G.rv x0), (2, .int x2)] [.int y1, .int y0] σ := by
  unfold kX9_countLeaves_35 at h
  refine GoC.iadd dX9_countLeaves_35 ?_
  refine GoC.istore_n [(0, G.rv x0), (1, .int (y0 + y1)), (2, .int x2)] dX9_countLeaves_36 (by decide) rfl ?_
  refine GoC.iinc (w := 1) 2 [(0, G.rv x0), (1, .int (y0 + y1)), (2, .int (x2 + 1))] dX9_countLeaves_37 rfl (by decide) (by decide) rfl ?_
  refine GoC.goto 4 dX9_countLeaves_40 (by decide) ?_
  exact h4 _ _ _ h
set_option maxRecDepth 20000 in
theorem ksX9_countLeaves_4 {l : Launch} {G : Gt} {n0 u0 : Nat} {σ : Hp} {Z : Int32} (n : Nat) : ∀ (x0 : Nat) (x1 : Int32) (x2 : Int32), kX9_countLeaves_4 σ n x0 x1 x2 = some Z → GoC l G RX9 "countLeaves" cX9_countLeaves 3 (some .int) 4 85 n0 u0 (some (.int Z)) σ 4 [(0, G.rv x0), (1, .int x1), (2, .int x2)] [] σ := by
  induction n with
  | zero => intro x0 x1 x2 h; rw [kX9_countLeaves_4] at h; cases h
  | succ n ih =>
    intro x0 x1 x2 h
    rw [kX9_countLeaves_4] at h
    refine GoC.iload_n 2 dX9_countLeaves_4 rfl ?_
    refine GC.aload_n 0 dX9_countLeaves_5 rfl ?_
    refine GC.getr 9 0 rfl (by decide) (by decide) fw_X9_22 (Or.inl rfl) dX9_countLeaves_6 h (fun v1 h => ?_)
    refine GC.geti 7 9 rfl (by decide) (by decide) fw_X9_125 (Or.inl rfl) dX9_countLeaves_9 h (fun v2 h => ?_)
    refine GoC.icmp_ge 43 dX9_countLeaves_12 (by decide) h (fun h => ?_) (fun h => ?_)
    · refine GoC.iload_n 1 dX9_countLeaves_43 rfl ?_
      cases h
      exact GoC.iret dX9_countLeaves_44 rfl
    · refine GoC.iload_n 1 dX9_countLeaves_15 rfl ?_
      refine GC.aload_n 0 dX9_countLeaves_16 rfl ?_
      refine GC.getr 9 0 rfl (by decide) (by decide) fw_X9_22 (Or.inl rfl) dX9_countLeaves_17 h (fun v3 h => ?_)
      refine GoC.iload_n 2 dX9_countLeaves_20 rfl ?_
      obtain ⟨h0, h⟩ := ckd_some h
      obtain ⟨v4, hq, h⟩ := Option.bind_eq_some_iff.mp h
      refine GC.callvR (rest := [.int x1]) 7 rfl h0 rfl [.int x2] dX9_countLeaves_21 kk_X9_46 km_X7_at.1 km_X7_at.2 (ktX7_at _ _ _ hq) rfl rfl (Nat.le_of_ble_eq_true rfl) (Nat.le_of_ble_eq_true rfl) ⟨rfl, trivial⟩ (Nat.le_of_ble_eq_true rfl) ?_
      refine GC.geti 3 0 rfl (by decide) (by decide) fw_X9_50 (Or.inl rfl) dX9_countLeaves_24 h (fun v5 h => ?_)
      refine GoC.if_eq 34 dX9_countLeaves_27 (by decide) h (fun h => ?_) (fun h => ?_)
      · refine GoC.iconst 0 dX9_countLeaves_34 (by decide) ?_
        refine GoC.sub [0, 2] rfl ?_
        exact ksX9_countLeaves_35 _ ih _ _ _ _ h
      · refine GoC.iconst 1 dX9_countLeaves_30 (by decide) ?_
        refine GoC.goto 35 dX9_countLeaves_31 (by decide) ?_
        refine GoC.sub [0, 2] rfl ?_
        exact ksX9_countLeaves_35 _ ih _ _ _ _ h
set_option maxRecDepth 20000 in
theorem ksX9_countLeaves {l : Launch} {G : Gt} {n0 u0 : Nat} {σ : Hp} {Z : Int32} (x0 : Nat) (h : kX9_countLeaves σ x0 = some Z) : GoC l G RX9 "countLeaves" cX9_countLeaves 3 (some .int) 4 85 n0 u0 (some (.int Z)) σ 0 [(0, G.rv x0)] [] σ := by
  unfold kX9_countLeaves at h
  refine GoC.iconst 0 dX9_countLeaves_0 (by decide) ?_
  refine GoC.istore_n [(0, G.rv x0), (1, .int 0)] dX9_countLeaves_1 (by decide) rfl ?_
  refine GoC.iconst 0 dX9_countLeaves_2 (by decide) ?_
  refine GoC.istore_n [(0, G.rv x0), (1, .int 0), (2, .int 0)] dX9_countLeaves_3 (by decide) rfl ?_
  exact ksX9_countLeaves_4 _ _ _ _ h
set_option maxRecDepth 20000 in
theorem ktX9_countLeaves {l : Launch} {G : Gt} {σ : Hp} (x0 : Nat) : ∀ Z, kX9_countLeaves σ x0 = some Z → MtC l G yX9_countLeaves cX9_countLeaves 3 (some .int) 4 85 [G.rv x0] σ (some (.int Z)) σ := fun Z h => MtC.at (by decide +kernel) ⟨G.rv_cat _, trivial⟩ (Nat.le_of_ble_eq_true rfl) (ksX9_countLeaves x0 h)
/-! X9_countLevels -/
def kX9_countLevels_19 (σ : Hp)  : Nat → Nat → Nat → Int32 → Int32 → Option (Int32)
  | 0, _, _, _, _ => none
  | n + 1, x0, x1, x2, x3 => if 40 ≤ x3 then some x2 else (gfi σ 13 300 x1).bind (fun v1 => if v1 = 0 then (gfr σ 19 900 x0).bind (fun v2 => (gfr σ 13 305 x1).bind (fun v3 => (ald σ 1 v3 0).bind (fun v4 => ckd σ v2 17 ((kX7_at σ v2 v4).bind (fun v5 => kX9_countLevels_19 σ n x0 v5 (x2 + 1) (x3 + 1)))))) else some x2)
def kX9_countLevels (σ : Hp) (x0 : Nat) : Option (Int32) := (gfr σ 19 900 x0).bind (fun v6 => (gfr σ 19 900 x0).bind (fun v7 => (gfi σ 17 710 v7).bind (fun v8 => ckd σ v6 17 ((kX7_at σ v6 v8).bind (fun v9 => kX9_countLevels_19 σ FU x0 v9 1 1)))))
set_option maxRecDepth 20000 in
theorem ksX9_countLevels_19 {l : Launch} {G : Gt} {n0 u0 : Nat} {σ : Hp} {Z : Int32} (n : Nat) : ∀ (x0 : Nat) (x1 : Nat) (x2 : Int32) (x3 : Int32), kX9_countLevels_19 σ n x0 x1 x2 x3 = some Z → GoC l G RX9 "countLevels" cX9_countLevels 4 (some .int) 4 85 n0 u0 (some (.int Z)) σ 19 [(0, G.rv x0), (1, G.rv x1), (2, .int x2), (3, .int x3)] [] σ := by
  induction n with
  | zero => intro x0 x1 x2 x3 h; rw [kX9_countLevels_19] at h; cases h
  | succ n ih =>
    intro x0 x1 x2 x3 h
    rw [kX9_countLevels_19] at h
    refine GoC.iload_n 3 dX9_countLevels_19 rfl ?_
    refine GoC.bipush 40 dX9_countLevels_20 (by decide) ?_
    refine GoC.icmp_ge 55 dX9_countLevels_22 (by decide) h (fun h => ?_) (fun h => ?_)
    · refine GoC.iload_n 2 dX9_countLevels_55 rfl ?_
      cases h
      exact GoC.iret dX9_countLevels_56 rfl
    · refine GC.aload_n 1 dX9_countLevels_25 rfl ?_
      refine GC.geti 3 0 rfl (by decide) (by decide) fw_X9_50 (Or.inl rfl) dX9_countLevels_26 h (fun v1 h => ?_)
      refine GoC.if_ne 55 dX9_countLevels_29 (by decide) h (fun h => ?_) (fun h => ?_)
      · refine GoC.iload_n 2 dX9_countLevels_55 rfl ?_
        cases h
        exact GoC.iret dX9_countLevels_56 rfl
      · refine GC.aload_n 0 dX9_countLevels_32 rfl ?_
        refine GC.getr 9 0 rfl (by decide) (by decide) fw_X9_22 (Or.inl rfl) dX9_countLevels_33 h (fun v2 h => ?_)
        refine GC.aload_n 1 dX9_countLevels_36 rfl ?_
        refine GC.getr 3 5 rfl (by decide) (by decide) fw_X9_72 (Or.inl rfl) dX9_countLevels_37 h (fun v3 h => ?_)
        refine GoC.iconst 0 dX9_countLevels_40 (by decide) ?_
        refine GC.iald dX9_countLevels_41 h (fun v4 h => ?_)
        obtain ⟨h0, h⟩ := ckd_some h
        obtain ⟨v5, hq, h⟩ := Option.bind_eq_some_iff.mp h
        refine GC.callvR (rest := []) 7 rfl h0 rfl [.int v4] dX9_countLevels_42 kk_X9_46 km_X7_at.1 km_X7_at.2 (ktX7_at _ _ _ hq) rfl rfl (Nat.le_of_ble_eq_true rfl) (Nat.le_of_ble_eq_true rfl) trivial (Nat.le_of_ble_eq_true rfl) ?_
        refine GC.astore_n [(0, G.rv x0), (1, G.rv v5), (2, .int x2), (3, .int x3)] dX9_countLevels_45 (by decide) rfl ?_
        refine GoC.iinc (w := 1) 2 [(0, G.rv x0), (1, G.rv v5), (2, .int (x2 + 1)), (3, .int x3)] dX9_countLevels_46 rfl (by decide) (by decide) rfl ?_
        refine GoC.iinc (w := 1) 3 [(0, G.rv x0), (1, G.rv v5), (2, .int (x2 + 1)), (3, .int (x3 + 1))] dX9_countLevels_49 rfl (by decide) (by decide) rfl ?_
        refine GoC.goto 19 dX9_countLevels_52 (by decide) ?_
        exact ih _ _ _ _ h
set_option maxRecDepth 20000 in
theorem ksX9_countLevels {l : Launch} {G : Gt} {n0 u0 : Nat} {σ : Hp} {Z : Int32} (x0 : Nat) (h : kX9_countLevels σ x0 = some Z) : GoC l G RX9 "countLevels" cX9_countLevels 4 (some .int) 4 85 n0 u0 (some (.int Z)) σ 0 [(0, G.rv x0)] [] σ := by
  unfold kX9_countLevels at h
  refine GC.aload_n 0 dX9_countLevels_0 rfl ?_
  refine GC.getr 9 0 rfl (by decide) (by decide) fw_X9_22 (Or.inl rfl) dX9_countLevels_1 h (fun v6 h => ?_)
  refine GC.aload_n 0 dX9_countLevels_4 rfl ?_
  refine GC.getr 9 0 rfl (by decide) (by decide) fw_X9_22 (Or.inl rfl) dX9_countLevels_5 h (fun v7 h => ?_)
  refine GC.geti 7 10 rfl (by decide) (by decide) fw_X9_42 (Or.inl rfl) dX9_countLevels_8 h (fun v8 h => ?_)
  obtain ⟨h0, h⟩ := ckd_some h
  obtain ⟨v9, hq, h⟩ := Option.bind_eq_some_iff.mp h
  refine GC.callvR (rest := []) 7 rfl h0 rfl [.int v8] dX9_countLevels_11 kk_X9_46 km_X7_at.1 km_X7_at.2 (ktX7_at _ _ _ hq) rfl rfl (Nat.le_of_ble_eq_true rfl) (Nat.le_of_ble_eq_true rfl) trivial (Nat.le_of_ble_eq_true rfl) ?_
  refine GC.astore_n [(0, G.rv x0), (1, G.rv v9)] dX9_countLevels_14 (by decide) rfl ?_
  refine GoC.iconst 1 dX9_countLevels_15 (by decide) ?_
  refine GoC.istore_n [(0, G.rv x0), (1, G.rv v9), (2, .int 1)] dX9_countLevels_16 (by decide) rfl ?_
  refine GoC.iconst 1 dX9_countLevels_17 (by decide) ?_
  refine GoC.istore_n [(0, G.rv x0), (1, G.rv v9), (2, .int 1), (3, .int 1)] dX9_countLevels_18 (by decide) rfl ?_
  exact ksX9_countLevels_19 _ _ _ _ _ h
set_option maxRecDepth 20000 in
theorem ktX9_countLevels {l : Launch} {G : Gt} {σ : Hp} (x0 : Nat) : ∀ Z, kX9_countLevels σ x0 = some Z → MtC l G yX9_countLevels cX9_countLevels 4 (some .int) 4 85 [G.rv x0] σ (some (.int Z)) σ := fun Z h => MtC.at (by decide +kernel) ⟨G.rv_cat _, trivial⟩ (Nat.le_of_ble_eq_true rfl) (ksX9_countLevels x0 h)
/-! X9_countEntries -/
def kX9_countEntries_4 (σ : Hp)  : Nat → Nat → Int32 → Int32 → Option (Int32)
  | 0, _, _, _ => none
  | n + 1, x0, x1, x2 => (gfr σ 19 900 x0).bind (fun v1 => (gfi σ 17 709 v1).bind (fun v2 => if v2 ≤ x2 then some x1 else (gfr σ 19 900 x0).bind (fun v3 => ckd σ v3 17 ((kX7_at σ v3 x2).bind (fun v4 => (gfi σ 13 302 v4).bind (fun v5 => kX9_countEntries_4 σ n x0 (x1 + v5) (x2 + 1)))))))
def kX9_countEntries (σ : Hp) (x0 : Nat) : Option (Int32) := kX9_countEntries_4 σ FU x0 0 0
set_option maxRecDepth 20000 in
theorem ksX9_countEntries_4 {l : Launch} {G : Gt} {n0 u0 : Nat} {σ : Hp} {Z : Int32} (n : Nat) : ∀ (x0 : Nat) (x1 : Int32) (x2 : Int32), kX9_countEntries_4 σ n x0 x1 x2 = some Z → GoC l G RX9 "countEntries" cX9_countEntries 3 (some .int) 4 85 n0 u0 (some (.int Z)) σ 4 [(0, G.rv x0), (1, .int x1), (2, .int x2)] [] σ := by
  induction n with
  | zero => intro x0 x1 x2 h; rw [kX9_countEntries_4] at h; cases h
  | succ n ih =>
    intro x0 x1 x2 h
    rw [kX9_countEntries_4] at h
    refine GoC.iload_n 2 dX9_countEntries_4 rfl ?_
    refine GC.aload_n 0 dX9_countEntries_5 rfl ?_
    refine GC.getr 9 0 rfl (by decide) (by decide) fw_X9_22 (Or.inl rfl) dX9_countEntries_6 h (fun v1 h => ?_)
    refine GC.geti 7 9 rfl (by decide) (by decide) fw_X9_125 (Or.inl rfl) dX9_countEntries_9 h (fun v2 h => ?_)
    refine GoC.icmp_ge 35 dX9_countEntries_12 (by decide) h (fun h => ?_) (fun h => ?_)
    · refine GoC.iload_n 1 dX9_countEntries_35 rfl ?_
      cases h
      exact GoC.iret dX9_countEntries_36 rfl
    · refine GoC.iload_n 1 dX9_countEntries_15 rfl ?_
      refine GC.aload_n 0 dX9_countEntries_16 rfl ?_
      refine GC.getr 9 0 rfl (by decide) (by decide) fw_X9_22 (Or.inl rfl) dX9_countEntries_17 h (fun v3 h => ?_)
      refine GoC.iload_n 2 dX9_countEntries_20 rfl ?_
      obtain ⟨h0, h⟩ := ckd_some h
      obtain ⟨v4, hq, h⟩ := Option.bind_eq_some_iff.mp h
      refine GC.callvR (rest := [.int x1]) 7 rfl h0 rfl [.int x2] dX9_countEntries_21 kk_X9_46 km_X7_at.1 km_X7_at.2 (ktX7_at _ _ _ hq) rfl rfl (Nat.le_of_ble_eq_true rfl) (Nat.le_of_ble_eq_true rfl) ⟨rfl, trivial⟩ (Nat.le_of_ble_eq_true rfl) ?_
      refine GC.geti 3 2 rfl (by decide) (by decide) fw_X9_75 (Or.inl rfl) dX9_countEntries_24 h (fun v5 h => ?_)
      refine GoC.iadd dX9_countEntries_27 ?_
      refine GoC.istore_n [(0, G.rv x0), (1, .int (x1 + v5)), (2, .int x2)] dX9_countEntries_28 (by decide) rfl ?_
      refine GoC.iinc (w := 1) 2 [(0, G.rv x0), (1, .int (x1 + v5)), (2, .int (x2 + 1))] dX9_countEntries_29 rfl (by decide) (by decide) rfl ?_
      refine GoC.goto 4 dX9_countEntries_32 (by decide) ?_
      exact ih _ _ _ h
set_option maxRecDepth 20000 in
theorem ksX9_countEntries {l : Launch} {G : Gt} {n0 u0 : Nat} {σ : Hp} {Z : Int32} (x0 : Nat) (h : kX9_countEntries σ x0 = some Z) : GoC l G RX9 "countEntries" cX9_countEntries 3 (some .int) 4 85 n0 u0 (some (.int Z)) σ 0 [(0, G.rv x0)] [] σ := by
  unfold kX9_countEntries at h
  refine GoC.iconst 0 dX9_countEntries_0 (by decide) ?_
  refine GoC.istore_n [(0, G.rv x0), (1, .int 0)] dX9_countEntries_1 (by decide) rfl ?_
  refine GoC.iconst 0 dX9_countEntries_2 (by decide) ?_
  refine GoC.istore_n [(0, G.rv x0), (1, .int 0), (2, .int 0)] dX9_countEntries_3 (by decide) rfl ?_
  exact ksX9_countEntries_4 _ _ _ _ h
set_option maxRecDepth 20000 in
theorem ktX9_countEntries {l : Launch} {G : Gt} {σ : Hp} (x0 : Nat) : ∀ Z, kX9_countEntries σ x0 = some Z → MtC l G yX9_countEntries cX9_countEntries 3 (some .int) 4 85 [G.rv x0] σ (some (.int Z)) σ := fun Z h => MtC.at (by decide +kernel) ⟨G.rv_cat _, trivial⟩ (Nat.le_of_ble_eq_true rfl) (ksX9_countEntries x0 h)
/-! X9_sumReaches -/
def kX9_sumReaches_27 (σ : Hp) (k4 : Nat → Int32 → Int32 → Option (Int32)) : Nat → Nat → Int32 → Int32 → Nat → Int32 → Option (Int32)
  | 0, _, _, _, _, _ => none
  | n + 1, x0, x1, x2, x3, x4 => (gfi σ 13 302 x3).bind (fun v1 => if v1 ≤ x4 then k4 x0 x1 (x2 + 1) else (gfr σ 13 304 x3).bind (fun v2 => (ald σ 1 v2 x4).bind (fun v3 => kX9_sumReaches_27 σ k4 n x0 (x1 + v3) x2 x3 (x4 + 1))))
def kX9_sumReaches_4 (σ : Hp)  : Nat → Nat → Int32 → Int32 → Option (Int32)
  | 0, _, _, _ => none
  | n + 1, x0, x1, x2 => (gfr σ 19 900 x0).bind (fun v4 => (gfi σ 17 709 v4).bind (fun v5 => if v5 ≤ x2 then some x1 else (gfr σ 19 900 x0).bind (fun v6 => ckd σ v6 17 ((kX7_at σ v6 x2).bind (fun v7 => kX9_sumReaches_27 σ (kX9_sumReaches_4 σ n) FU x0 x1 x2 v7 0)))))
def kX9_sumReaches (σ : Hp) (x0 : Nat) : Option (Int32) := kX9_sumReaches_4 σ FU x0 0 0
set_option maxRecDepth 20000 in
theorem ksX9_sumReaches_27 {l : Launch} {G : Gt} {n0 u0 : Nat} {σ : Hp} {Z : Int32} (k4 : Nat → Int32 → Int32 → Option (Int32)) (h4 : ∀ (x0 : Nat) (x1 : Int32) (x2 : Int32), k4 x0 x1 x2 = some Z → GoC l G RX9 "sumReaches" cX9_sumReaches 5 (some .int) 4 85 n0 u0 (some (.int Z)) σ 4 [(0, G.rv x0), (1, .int x1), (2, .int x2)] [] σ) (n : Nat) : ∀ (x0 : Nat) (x1 : Int32) (x2 : Int32) (x3 : Nat) (x4 : Int32), kX9_sumReaches_27 σ k4 n x0 x1 x2 x3 x4 = some Z → GoC l G RX9 "sumReaches" cX9_sumReaches 5 (some .int) 4 85 n0 u0 (some (.int Z)) σ 27 [(0, G.rv x0), (1, .int x1), (2, .int x2), (3, G.rv x3), (4, .int x4)] [] σ := by
  induction n with
  | zero => intro x0 x1 x2 x3 x4 h; rw [kX9_sumReaches_27] at h; cases h
  | succ n ih =>
    intro x0 x1 x2 x3 x4 h
    rw [kX9_sumReaches_27] at h
    refine GoC.iload 4 dX9_sumReaches_27 rfl ?_
    refine GC.aload_n 3 dX9_sumReaches_29 rfl ?_
    refine GC.geti 3 2 rfl (by decide) (by decide) fw_X9_75 (Or.inl rfl) dX9_sumReaches_30 h (fun v1 h => ?_)
    refine GoC.icmp_ge 52 dX9_sumReaches_33 (by decide) h (fun h => ?_) (fun h => ?_)
    · refine GoC.iinc (w := 1) 2 [(0, G.rv x0), (1, .int x1), (2, .int (x2 + 1)), (3, G.rv x3), (4, .int x4)] dX9_sumReaches_52 rfl (by decide) (by decide) rfl ?_
      refine GoC.goto 4 dX9_sumReaches_55 (by decide) ?_
      refine GoC.sub [0, 1, 2] rfl ?_
      exact h4 _ _ _ h
    · refine GoC.iload_n 1 dX9_sumReaches_36 rfl ?_
      refine GC.aload_n 3 dX9_sumReaches_37 rfl ?_
      refine GC.getr 3 4 rfl (by decide) (by decide) fw_X9_69 (Or.inl rfl) dX9_sumReaches_38 h (fun v2 h => ?_)
      refine GoC.iload 4 dX9_sumReaches_41 rfl ?_
      refine GC.iald dX9_sumReaches_43 h (fun v3 h => ?_)
      refine GoC.iadd dX9_sumReaches_44 ?_
      refine GoC.istore_n [(0, G.rv x0), (1, .int (x1 + v3)), (2, .int x2), (3, G.rv x3), (4, .int x4)] dX9_sumReaches_45 (by decide) rfl ?_
      refine GoC.iinc (w := 1) 4 [(0, G.rv x0), (1, .int (x1 + v3)), (2, .int x2), (3, G.rv x3), (4, .int (x4 + 1))] dX9_sumReaches_46 rfl (by decide) (by decide) rfl ?_
      refine GoC.goto 27 dX9_sumReaches_49 (by decide) ?_
      exact ih _ _ _ _ _ h
set_option maxRecDepth 20000 in
theorem ksX9_sumReaches_4 {l : Launch} {G : Gt} {n0 u0 : Nat} {σ : Hp} {Z : Int32} (n : Nat) : ∀ (x0 : Nat) (x1 : Int32) (x2 : Int32), kX9_sumReaches_4 σ n x0 x1 x2 = some Z → GoC l G RX9 "sumReaches" cX9_sumReaches 5 (some .int) 4 85 n0 u0 (some (.int Z)) σ 4 [(0, G.rv x0), (1, .int x1), (2, .int x2)] [] σ := by
  induction n with
  | zero => intro x0 x1 x2 h; rw [kX9_sumReaches_4] at h; cases h
  | succ n ih =>
    intro x0 x1 x2 h
    rw [kX9_sumReaches_4] at h
    refine GoC.iload_n 2 dX9_sumReaches_4 rfl ?_
    refine GC.aload_n 0 dX9_sumReaches_5 rfl ?_
    refine GC.getr 9 0 rfl (by decide) (by decide) fw_X9_22 (Or.inl rfl) dX9_sumReaches_6 h (fun v4 h => ?_)
    refine GC.geti 7 9 rfl (by decide) (by decide) fw_X9_125 (Or.inl rfl) dX9_sumReaches_9 h (fun v5 h => ?_)
    refine GoC.icmp_ge 58 dX9_sumReaches_12 (by decide) h (fun h => ?_) (fun h => ?_)
    · refine GoC.iload_n 1 dX9_sumReaches_58 rfl ?_
      cases h
      exact GoC.iret dX9_sumReaches_59 rfl
    · refine GC.aload_n 0 dX9_sumReaches_15 rfl ?_
      refine GC.getr 9 0 rfl (by decide) (by decide) fw_X9_22 (Or.inl rfl) dX9_sumReaches_16 h (fun v6 h => ?_)
      refine GoC.iload_n 2 dX9_sumReaches_19 rfl ?_
      obtain ⟨h0, h⟩ := ckd_some h
      obtain ⟨v7, hq, h⟩ := Option.bind_eq_some_iff.mp h
      refine GC.callvR (rest := []) 7 rfl h0 rfl [.int x2] dX9_sumReaches_20 kk_X9_46 km_X7_at.1 km_X7_at.2 (ktX7_at _ _ _ hq) rfl rfl (Nat.le_of_ble_eq_true rfl) (Nat.le_of_ble_eq_true rfl) trivial (Nat.le_of_ble_eq_true rfl) ?_
      refine GC.astore_n [(0, G.rv x0), (1, .int x1), (2, .int x2), (3, G.rv v7)] dX9_sumReaches_23 (by decide) rfl ?_
      refine GoC.iconst 0 dX9_sumReaches_24 (by decide) ?_
      refine GoC.istore [(0, G.rv x0), (1, .int x1), (2, .int x2), (3, G.rv v7), (4, .int 0)] dX9_sumReaches_25 (by decide) rfl ?_
      exact ksX9_sumReaches_27 _ ih _ _ _ _ _ _ h
set_option maxRecDepth 20000 in
theorem ksX9_sumReaches {l : Launch} {G : Gt} {n0 u0 : Nat} {σ : Hp} {Z : Int32} (x0 : Nat) (h : kX9_sumReaches σ x0 = some Z) : GoC l G RX9 "sumReaches" cX9_sumReaches 5 (some .int) 4 85 n0 u0 (some (.int Z)) σ 0 [(0, G.rv x0)] [] σ := by
  unfold kX9_sumReaches at h
  refine GoC.iconst 0 dX9_sumReaches_0 (by decide) ?_
  refine GoC.istore_n [(0, G.rv x0), (1, .int 0)] dX9_sumReaches_1 (by decide) rfl ?_
  refine GoC.iconst 0 dX9_sumReaches_2 (by decide) ?_
  refine GoC.istore_n [(0, G.rv x0), (1, .int 0), (2, .int 0)] dX9_sumReaches_3 (by decide) rfl ?_
  exact ksX9_sumReaches_4 _ _ _ _ h
set_option maxRecDepth 20000 in
theorem ktX9_sumReaches {l : Launch} {G : Gt} {σ : Hp} (x0 : Nat) : ∀ Z, kX9_sumReaches σ x0 = some Z → MtC l G yX9_sumReaches cX9_sumReaches 5 (some .int) 4 85 [G.rv x0] σ (some (.int Z)) σ := fun Z h => MtC.at (by decide +kernel) ⟨G.rv_cat _, trivial⟩ (Nat.le_of_ble_eq_true rfl) (ksX9_sumReaches x0 h)
/-! X9_overlapsIn -/
def kX9_overlapsIn_66 (σ : Hp) (k4 : Nat → Nat → Int32 → Int32 → Option (Int32)) (k17 : Nat → Nat → Int32 → Int32 → Int32 → Option (Int32)) (x0 : Nat) (x1 : Nat) (x2 : Int32) (x3 : Int32) (x4 : Int32) : Option (Int32) := k17 x0 x1 x2 x3 (x4 + 1)
def kX9_overlapsIn_17 (σ : Hp) (k4 : Nat → Nat → Int32 → Int32 → Option (Int32)) : Nat → Nat → Nat → Int32 → Int32 → Int32 → Option (Int32)
  | 0, _, _, _, _, _ => none
  | n + 1, x0, x1, x2, x3, x4 => (gfi σ 13 302 x1).bind (fun v1 => if v1 ≤ x4 then k4 x0 x1 x2 (x3 + 1) else (gfr σ 19 901 x0).bind (fun v2 => (gfr σ 13 303 x1).bind (fun v3 => (ald σ 1 v3 x3).bind (fun v4 => (gfr σ 13 303 x1).bind (fun v5 => (ald σ 1 v5 x4).bind (fun v6 => ckd σ v2 11 ((kX1_of σ v2 v4 v6).bind (fun v7 => (gfr σ 13 304 x1).bind (fun v8 => (ald σ 1 v8 x3).bind (fun v9 => (gfr σ 13 304 x1).bind (fun v10 => (ald σ 1 v10 x4).bind (fun v11 => if (v9 + v11) < v7 then kX9_overlapsIn_66 σ k4 (kX9_overlapsIn_17 σ k4 n) x0 x1 x2 x3 x4 else kX9_overlapsIn_66 σ k4 (kX9_overlapsIn_17 σ k4 n) x0 x1 (x2 + 1) x3 x4))))))))))))
def kX9_overlapsIn_4 (σ : Hp)  : Nat → Nat → Nat → Int32 → Int32 → Option (Int32)
  | 0, _, _, _, _ => none
  | n + 1, x0, x1, x2, x3 => (gfi σ 13 302 x1).bind (fun v12 => if v12 ≤ x3 then some x2 else kX9_overlapsIn_17 σ (kX9_overlapsIn_4 σ n) FU x0 x1 x2 x3 (x3 + 1))
def kX9_overlapsIn (σ : Hp) (x0 : Nat) (x1 : Nat) : Option (Int32) := kX9_overlapsIn_4 σ FU x0 x1 0 0
set_option maxRecDepth 20000 in
theorem ksX9_overlapsIn_66 {l : Launch} {G : Gt} {n0 u0 : Nat} {σ : Hp} {Z : Int32} (k4 : Nat → Nat → Int32 → Int32 → Option (Int32)) (h4 : ∀ (x0 : Nat) (x1 : Nat) (x2 : Int32) (x3 : Int32), k4 x0 x1 x2 x3 = some Z → GoC l G RX9 "overlapsIn" cX9_overlapsIn 5 (some .int) 1 22 n0 u0 (some (.int Z)) σ 4 [(0, G.rv x0), (1, G.rv x1), (2, .int x2), (3, .int x3)] [] σ) (k17 : Nat → Nat → Int32 → Int32 → Int32 → Option (Int32)) (h17 : ∀ (x0 : Nat) (x1 : Nat) (x2 : Int32) (x3 : Int32) (x4 : Int32), k17 x0 x1 x2 x3 x4 = some Z → GoC l G RX9 "overlapsIn" cX9_overlapsIn 5 (some .int) 1 22 n0 u0 (some (.int Z)) σ 17 [(0, G.rv x0), (1, G.rv x1), (2, .int x2), (3, .int x3), (4, .int x4)] [] σ) (x0 : Nat) (x1 : Nat) (x2 : Int32) (x3 : Int32) (x4 : Int32) (h : kX9_overlapsIn_66 σ k4 k17 x0 x1 x2 x3 x4 = some Z) : GoC l G RX9 "overlapsIn" cX9_overlapsIn 5 (some .int) 1 22 n0 u0 (some (.int Z)) σ 66 [(0, G.rv x0), (1, G.rv x1), (2, .int x2), (3, .int x3), (4, .int x4)] [] σ := by
  unfold kX9_overlapsIn_66 at h
  refine GoC.iinc (w := 1) 4 [(0, G.rv x0), (1, G.rv x1), (2, .int x2), (3, .int x3), (4, .int (x4 + 1))] dX9_overlapsIn_66 rfl (by decide) (by decide) rfl ?_
  refine GoC.goto 17 dX9_overlapsIn_69 (by decide) ?_
  exact h17 _ _ _ _ _ h
set_option maxRecDepth 20000 in
theorem ksX9_overlapsIn_17 {l : Launch} {G : Gt} {n0 u0 : Nat} {σ : Hp} {Z : Int32} (k4 : Nat → Nat → Int32 → Int32 → Option (Int32)) (h4 : ∀ (x0 : Nat) (x1 : Nat) (x2 : Int32) (x3 : Int32), k4 x0 x1 x2 x3 = some Z → GoC l G RX9 "overlapsIn" cX9_overlapsIn 5 (some .int) 1 22 n0 u0 (some (.int Z)) σ 4 [(0, G.rv x0), (1, G.rv x1), (2, .int x2), (3, .int x3)] [] σ) (n : Nat) : ∀ (x0 : Nat) (x1 : Nat) (x2 : Int32) (x3 : Int32) (x4 : Int32), kX9_overlapsIn_17 σ k4 n x0 x1 x2 x3 x4 = some Z → GoC l G RX9 "overlapsIn" cX9_overlapsIn 5 (some .int) 1 22 n0 u0 (some (.int Z)) σ 17 [(0, G.rv x0), (1, G.rv x1), (2, .int x2), (3, .int x3), (4, .int x4)] [] σ := by
  induction n with
  | zero => intro x0 x1 x2 x3 x4 h; rw [kX9_overlapsIn_17] at h; cases h
  | succ n ih =>
    intro x0 x1 x2 x3 x4 h
    rw [kX9_overlapsIn_17] at h
    refine GoC.iload 4 dX9_overlapsIn_17 rfl ?_
    refine GC.aload_n 1 dX9_overlapsIn_19 rfl ?_
    refine GC.geti 3 2 rfl (by decide) (by decide) fw_X9_75 (Or.inl rfl) dX9_overlapsIn_20 h (fun v1 h => ?_)
    refine GoC.icmp_ge 72 dX9_overlapsIn_23 (by decide) h (fun h => ?_) (fun h => ?_)
    · refine GoC.iinc (w := 1) 3 [(0, G.rv x0), (1, G.rv x1), (2, .int x2), (3, .int (x3 + 1)), (4, .int x4)] dX9_overlapsIn_72 rfl (by decide) (by decide) rfl ?_
      refine GoC.goto 4 dX9_overlapsIn_75 (by decide) ?_
      refine GoC.sub [0, 1, 2, 3] rfl ?_
      exact h4 _ _ _ _ h
    · refine GC.aload_n 0 dX9_overlapsIn_26 rfl ?_
      refine GC.getr 9 1 rfl (by decide) (by decide) fw_X9_26 (Or.inl rfl) dX9_overlapsIn_27 h (fun v2 h => ?_)
      refine GC.aload_n 1 dX9_overlapsIn_30 rfl ?_
      refine GC.getr 3 3 rfl (by decide) (by decide) fw_X9_60 (Or.inl rfl) dX9_overlapsIn_31 h (fun v3 h => ?_)
      refine GoC.iload_n 3 dX9_overlapsIn_34 rfl ?_
      refine GC.iald dX9_overlapsIn_35 h (fun v4 h => ?_)
      refine GC.aload_n 1 dX9_overlapsIn_36 rfl ?_
      refine GC.getr 3 3 rfl (by decide) (by decide) fw_X9_60 (Or.inl rfl) dX9_overlapsIn_37 h (fun v5 h => ?_)
      refine GoC.iload 4 dX9_overlapsIn_40 rfl ?_
      refine GC.iald dX9_overlapsIn_42 h (fun v6 h => ?_)
      obtain ⟨h0, h⟩ := ckd_some h
      obtain ⟨v7, hq, h⟩ := Option.bind_eq_some_iff.mp h
      refine GC.callvI (rest := []) 1 rfl h0 rfl [.int v4, .int v6] dX9_overlapsIn_43 kk_X9_63 km_X1_of.1 km_X1_of.2 (ktX1_of _ _ _ _ hq) rfl rfl (Nat.le_of_ble_eq_true rfl) (Nat.le_of_ble_eq_true rfl) trivial (Nat.le_of_ble_eq_true rfl) ?_
      refine GC.aload_n 1 dX9_overlapsIn_46 rfl ?_
      refine GC.getr 3 4 rfl (by decide) (by decide) fw_X9_69 (Or.inl rfl) dX9_overlapsIn_47 h (fun v8 h => ?_)
      refine GoC.iload_n 3 dX9_overlapsIn_50 rfl ?_
      refine GC.iald dX9_overlapsIn_51 h (fun v9 h => ?_)
      refine GC.aload_n 1 dX9_overlapsIn_52 rfl ?_
      refine GC.getr 3 4 rfl (by decide) (by decide) fw_X9_69 (Or.inl rfl) dX9_overlapsIn_53 h (fun v10 h => ?_)
      refine GoC.iload 4 dX9_overlapsIn_56 rfl ?_
      refine GC.iald dX9_overlapsIn_58 h (fun v11 h => ?_)
      refine GoC.iadd dX9_overlapsIn_59 ?_
      refine GoC.icmp_gt 66 dX9_overlapsIn_60 (by decide) h (fun h => ?_) (fun h => ?_)
      · exact ksX9_overlapsIn_66 _ h4 _ ih _ _ _ _ _ h
      · refine GoC.iinc (w := 1) 2 [(0, G.rv x0), (1, G.rv x1), (2, .int (x2 + 1)), (3, .int x3), (4, .int x4)] dX9_overlapsIn_63 rfl (by decide) (by decide) rfl ?_
        exact ksX9_overlapsIn_66 _ h4 _ ih _ _ _ _ _ h
set_option maxRecDepth 20000 in
theorem ksX9_overlapsIn_4 {l : Launch} {G : Gt} {n0 u0 : Nat} {σ : Hp} {Z : Int32} (n : Nat) : ∀ (x0 : Nat) (x1 : Nat) (x2 : Int32) (x3 : Int32), kX9_overlapsIn_4 σ n x0 x1 x2 x3 = some Z → GoC l G RX9 "overlapsIn" cX9_overlapsIn 5 (some .int) 1 22 n0 u0 (some (.int Z)) σ 4 [(0, G.rv x0), (1, G.rv x1), (2, .int x2), (3, .int x3)] [] σ := by
  induction n with
  | zero => intro x0 x1 x2 x3 h; rw [kX9_overlapsIn_4] at h; cases h
  | succ n ih =>
    intro x0 x1 x2 x3 h
    rw [kX9_overlapsIn_4] at h
    refine GoC.iload_n 3 dX9_overlapsIn_4 rfl ?_
    refine GC.aload_n 1 dX9_overlapsIn_5 rfl ?_
    refine GC.geti 3 2 rfl (by decide) (by decide) fw_X9_75 (Or.inl rfl) dX9_overlapsIn_6 h (fun v12 h => ?_)
    refine GoC.icmp_ge 78 dX9_overlapsIn_9 (by decide) h (fun h => ?_) (fun h => ?_)
    · refine GoC.iload_n 2 dX9_overlapsIn_78 rfl ?_
      cases h
      exact GoC.iret dX9_overlapsIn_79 rfl
    · refine GoC.iload_n 3 dX9_overlapsIn_12 rfl ?_
      refine GoC.iconst 1 dX9_overlapsIn_13 (by decide) ?_
      refine GoC.iadd dX9_overlapsIn_14 ?_
      refine GoC.istore [(0, G.rv x0), (1, G.rv x1), (2, .int x2), (3, .int x3), (4, .int (x3 + 1))] dX9_overlapsIn_15 (by decide) rfl ?_
      exact ksX9_overlapsIn_17 _ ih _ _ _ _ _ _ h
set_option maxRecDepth 20000 in
theorem ksX9_overlapsIn {l : Launch} {G : Gt} {n0 u0 : Nat} {σ : Hp} {Z : Int32} (x0 : Nat) (x1 : Nat) (h : kX9_overlapsIn σ x0 x1 = some Z) : GoC l G RX9 "overlapsIn" cX9_overlapsIn 5 (some .int) 1 22 n0 u0 (some (.int Z)) σ 0 [(0, G.rv x0), (1, G.rv x1)] [] σ := by
  unfold kX9_overlapsIn at h
  refine GoC.iconst 0 dX9_overlapsIn_0 (by decide) ?_
  refine GoC.istore_n [(0, G.rv x0), (1, G.rv x1), (2, .int 0)] dX9_overlapsIn_1 (by decide) rfl ?_
  refine GoC.iconst 0 dX9_overlapsIn_2 (by decide) ?_
  refine GoC.istore_n [(0, G.rv x0), (1, G.rv x1), (2, .int 0), (3, .int 0)] dX9_overlapsIn_3 (by decide) rfl ?_
  exact ksX9_overlapsIn_4 _ _ _ _ _ h
set_option maxRecDepth 20000 in
theorem ktX9_overlapsIn {l : Launch} {G : Gt} {σ : Hp} (x0 : Nat) (x1 : Nat) : ∀ Z, kX9_overlapsIn σ x0 x1 = some Z → MtC l G yX9_overlapsIn cX9_overlapsIn 5 (some .int) 1 22 [G.rv x0, G.rv x1] σ (some (.int Z)) σ := fun Z h => MtC.at (by decide +kernel) ⟨G.rv_cat _, G.rv_cat _, trivial⟩ (Nat.le_of_ble_eq_true rfl) (ksX9_overlapsIn x0 x1 h)
/-! X9_countOverlaps -/
def kX9_countOverlaps_41 (σ : Hp) (k4 : Nat → Int32 → Int32 → Option (Int32)) (x0 : Nat) (x2 : Int32) (y0 : Int32) (y1 : Int32) : Option (Int32) := k4 x0 (y0 + y1) (x2 + 1)
def kX9_countOverlaps_4 (σ : Hp)  : Nat → Nat → Int32 → Int32 → Option (Int32)
  | 0, _, _, _ => none
  | n + 1, x0, x1, x2 => (gfr σ 19 900 x0).bind (fun v1 => (gfi σ 17 709 v1).bind (fun v2 => if v2 ≤ x2 then some x1 else (gfr σ 19 900 x0).bind (fun v3 => ckd σ v3 17 ((kX7_at σ v3 x2).bind (fun v4 => (gfi σ 13 300 v4).bind (fun v5 => if v5 = 0 then ckd σ x0 19 ((kX9_overlapsIn σ x0 v4).bind (fun v6 => kX9_countOverlaps_41 σ (kX9_countOverlaps_4 σ n) x0 x2 x1 v6)) else kX9_countOverlaps_41 σ (kX9_countOverlaps_4 σ n) x0 x2 x1 0))))))
def kX9_countOverlaps (σ : Hp) (x0 : Nat) : Option (Int32) := kX9_countOverlaps_4 σ FU x0 0 0
set_option maxRecDepth 20000 in
theorem ksX9_countOverlaps_41 {l : Launch} {G : Gt} {n0 u0 : Nat} {σ : Hp} {Z : Int32} (k4 : Nat → Int32 → Int32 → Option (Int32)) (h4 : ∀ (x0 : Nat) (x1 : Int32) (x2 : Int32), k4 x0 x1 x2 = some Z → GoC l G RX9 "countOverlaps" cX9_countOverlaps 4 (some .int) 4 85 n0 u0 (some (.int Z)) σ 4 [(0, G.rv x0), (1, .int x1), (2, .int x2)] [] σ) (x0 : Nat) (x2 : Int32) (y0 : Int32) (y1 : Int32) (h : kX9_countOverlaps_41 σ k4 x0 x2 y0 y1 = some Z) : GoC l G RX9 "countOverlaps" cX9_countOverlaps 4 (some .int) 4 85 n0 u0 (some (.int Z)) σ 41 [(0, G.rv x0), (2, .int x2)] [.int y1, .int y0] σ := by
  unfold kX9_countOverlaps_41 at h
  refine GoC.iadd dX9_countOverlaps_41 ?_
  refine GoC.istore_n [(0, G.rv x0), (1, .int (y0 + y1)), (2, .int x2)] dX9_countOverlaps_42 (by decide) rfl ?_
  refine GoC.iinc (w := 1) 2 [(0, G.rv x0), (1, .int (y0 + y1)), (2, .int (x2 + 1))] dX9_countOverlaps_43 rfl (by decide) (by decide) rfl ?_
  refine GoC.goto 4 dX9_countOverlaps_46 (by decide) ?_
  exact h4 _ _ _ h
set_option maxRecDepth 20000 in
theorem ksX9_countOverlaps_4 {l : Launch} {G : Gt} {n0 u0 : Nat} {σ : Hp} {Z : Int32} (n : Nat) : ∀ (x0 : Nat) (x1 : Int32) (x2 : Int32), kX9_countOverlaps_4 σ n x0 x1 x2 = some Z → GoC l G RX9 "countOverlaps" cX9_countOverlaps 4 (some .int) 4 85 n0 u0 (some (.int Z)) σ 4 [(0, G.rv x0), (1, .int x1), (2, .int x2)] [] σ := by
  induction n with
  | zero => intro x0 x1 x2 h; rw [kX9_countOverlaps_4] at h; cases h
  | succ n ih =>
    intro x0 x1 x2 h
    rw [kX9_countOverlaps_4] at h
    refine GoC.iload_n 2 dX9_countOverlaps_4 rfl ?_
    refine GC.aload_n 0 dX9_countOverlaps_5 rfl ?_
    refine GC.getr 9 0 rfl (by decide) (by decide) fw_X9_22 (Or.inl rfl) dX9_countOverlaps_6 h (fun v1 h => ?_)
    refine GC.geti 7 9 rfl (by decide) (by decide) fw_X9_125 (Or.inl rfl) dX9_countOverlaps_9 h (fun v2 h => ?_)
    refine GoC.icmp_ge 49 dX9_countOverlaps_12 (by decide) h (fun h => ?_) (fun h => ?_)
    · refine GoC.iload_n 1 dX9_countOverlaps_49 rfl ?_
      cases h
      exact GoC.iret dX9_countOverlaps_50 rfl
    · refine GC.aload_n 0 dX9_countOverlaps_15 rfl ?_
      refine GC.getr 9 0 rfl (by decide) (by decide) fw_X9_22 (Or.inl rfl) dX9_countOverlaps_16 h (fun v3 h => ?_)
      refine GoC.iload_n 2 dX9_countOverlaps_19 rfl ?_
      obtain ⟨h0, h⟩ := ckd_some h
      obtain ⟨v4, hq, h⟩ := Option.bind_eq_some_iff.mp h
      refine GC.callvR (rest := []) 7 rfl h0 rfl [.int x2] dX9_countOverlaps_20 kk_X9_46 km_X7_at.1 km_X7_at.2 (ktX7_at _ _ _ hq) rfl rfl (Nat.le_of_ble_eq_true rfl) (Nat.le_of_ble_eq_true rfl) trivial (Nat.le_of_ble_eq_true rfl) ?_
      refine GC.astore_n [(0, G.rv x0), (1, .int x1), (2, .int x2), (3, G.rv v4)] dX9_countOverlaps_23 (by decide) rfl ?_
      refine GoC.iload_n 1 dX9_countOverlaps_24 rfl ?_
      refine GC.aload_n 3 dX9_countOverlaps_25 rfl ?_
      refine GC.geti 3 0 rfl (by decide) (by decide) fw_X9_50 (Or.inl rfl) dX9_countOverlaps_26 h (fun v5 h => ?_)
      refine GoC.if_eq 36 dX9_countOverlaps_29 (by decide) h (fun h => ?_) (fun h => ?_)
      · refine GC.aload_n 0 dX9_countOverlaps_36 rfl ?_
        refine GC.aload_n 3 dX9_countOverlaps_37 rfl ?_
        obtain ⟨h0, h⟩ := ckd_some h
        obtain ⟨v6, hq, h⟩ := Option.bind_eq_some_iff.mp h
        refine GC.callvI (rest := [.int x1]) 9 rfl h0 rfl [G.rv v4] dX9_countOverlaps_38 kk_X9_135 km_X9_overlapsIn.1 km_X9_overlapsIn.2 (ktX9_overlapsIn _ _ _ hq) rfl rfl (Nat.le_of_ble_eq_true rfl) (Nat.le_of_ble_eq_true rfl) ⟨rfl, trivial⟩ (Nat.le_of_ble_eq_true rfl) ?_
        refine GoC.sub [0, 2] rfl ?_
        exact ksX9_countOverlaps_41 _ ih _ _ _ _ h
      · refine GoC.iconst 0 dX9_countOverlaps_32 (by decide) ?_
        refine GoC.goto 41 dX9_countOverlaps_33 (by decide) ?_
        refine GoC.sub [0, 2] rfl ?_
        exact ksX9_countOverlaps_41 _ ih _ _ _ _ h
set_option maxRecDepth 20000 in
theorem ksX9_countOverlaps {l : Launch} {G : Gt} {n0 u0 : Nat} {σ : Hp} {Z : Int32} (x0 : Nat) (h : kX9_countOverlaps σ x0 = some Z) : GoC l G RX9 "countOverlaps" cX9_countOverlaps 4 (some .int) 4 85 n0 u0 (some (.int Z)) σ 0 [(0, G.rv x0)] [] σ := by
  unfold kX9_countOverlaps at h
  refine GoC.iconst 0 dX9_countOverlaps_0 (by decide) ?_
  refine GoC.istore_n [(0, G.rv x0), (1, .int 0)] dX9_countOverlaps_1 (by decide) rfl ?_
  refine GoC.iconst 0 dX9_countOverlaps_2 (by decide) ?_
  refine GoC.istore_n [(0, G.rv x0), (1, .int 0), (2, .int 0)] dX9_countOverlaps_3 (by decide) rfl ?_
  exact ksX9_countOverlaps_4 _ _ _ _ h
set_option maxRecDepth 20000 in
theorem ktX9_countOverlaps {l : Launch} {G : Gt} {σ : Hp} (x0 : Nat) : ∀ Z, kX9_countOverlaps σ x0 = some Z → MtC l G yX9_countOverlaps cX9_countOverlaps 4 (some .int) 4 85 [G.rv x0] σ (some (.int Z)) σ := fun Z h => MtC.at (by decide +kernel) ⟨G.rv_cat _, trivial⟩ (Nat.le_of_ble_eq_true rfl) (ksX9_countOverlaps x0 h)
/-! X10_init -/
def kX10_init (σ : Hp) (x0 : Nat) (x1 : Nat) (x2 : Nat) : Option (Hp) := (nz x0).bind (fun _ => bd2 (nwO σ 12 3) (fun v1 σ2 => (nz v1).bind (fun _ => (kJx4a65c_init_da8c8 σ2 v1).bind (fun σ3 => (pfr σ3 20 1002 x0 v1).bind (fun σ4 => (pfr σ4 20 1000 x0 x1).bind (fun σ5 => (pfr σ5 20 1001 x0 x2).bind (fun σ6 => some σ6)))))))
set_option maxRecDepth 20000 in
theorem ksX10_init {l : Launch} {G : Gt} {n0 u0 : Nat} {σ : Hp} {Z : Hp} (x0 : Nat) (x1 : Nat) (x2 : Nat) (h : kX10_init σ x0 x1 x2 = some Z) : GoC l G RX10 "<init>" cX10_init 3 none 4 80 n0 u0 none Z 0 [(0, G.rv x0), (1, G.rv x1), (2, G.rv x2)] [] σ := by
  unfold kX10_init at h
  refine GC.aload_n 0 dX10_init_0 rfl ?_
  obtain ⟨_, h0, h⟩ := Option.bind_eq_some_iff.mp h
  refine GC.oinit (nz_ne h0) oi_X10_3 oi_inst oi_code dX10_init_1 (Nat.le_of_ble_eq_true rfl) trivial (Nat.le_of_ble_eq_true rfl) ?_
  refine GC.aload_n 0 dX10_init_4 rfl ?_
  refine GC.new 12 rfl cl_X10_9 is_Jx4a65c ii_Jx4a65c dX10_init_5 h (fun v1 σ2 h => ?_)
  refine GoC.dup dX10_init_8 (G.rv_cat _) ?_
  obtain ⟨_, h0, h⟩ := Option.bind_eq_some_iff.mp h
  obtain ⟨σ3, hq, h⟩ := Option.bind_eq_some_iff.mp h
  refine GC.calliV (rest := [G.rv v1, G.rv x0]) (nz_ne h0) [] dX10_init_9 kk_X10_11 rfl km_Jx4a65c_init_da8c8 (ktJx4a65c_init_da8c8 _ _ hq) rfl rfl (Nat.le_of_ble_eq_true rfl) (Nat.le_of_ble_eq_true rfl) ⟨G.rv_cat _, G.rv_cat _, trivial⟩ (Nat.le_of_ble_eq_true rfl) ?_
  refine GC.putr 10 2 rfl (by decide) (by decide) (Or.inl ⟨_, rfl⟩) fw_X10_12 (Or.inl rfl) (Or.inr ⟨rfl, rfl, rfl⟩) dX10_init_12 h (fun σ4 h => ?_)
  refine GC.aload_n 0 dX10_init_15 rfl ?_
  refine GC.aload_n 1 dX10_init_16 rfl ?_
  refine GC.putr 10 0 rfl (by decide) (by decide) (Or.inl ⟨_, rfl⟩) fw_X10_18 (Or.inl rfl) (Or.inr ⟨rfl, rfl, rfl⟩) dX10_init_17 h (fun σ5 h => ?_)
  refine GC.aload_n 0 dX10_init_20 rfl ?_
  refine GC.aload_n 2 dX10_init_21 rfl ?_
  refine GC.putr 10 1 rfl (by decide) (by decide) (Or.inl ⟨_, rfl⟩) fw_X10_22 (Or.inl rfl) (Or.inr ⟨rfl, rfl, rfl⟩) dX10_init_22 h (fun σ6 h => ?_)
  cases h
  exact GoC.vret dX10_init_25 rfl
set_option maxRecDepth 20000 in
theorem ktX10_init {l : Launch} {G : Gt} {σ : Hp} (x0 : Nat) (x1 : Nat) (x2 : Nat) : ∀ Z, kX10_init σ x0 x1 x2 = some Z → MtC l G yX10_init cX10_init 3 none 4 80 [G.rv x0, G.rv x1, G.rv x2] σ none Z := fun Z h => MtC.at (by decide +kernel) ⟨G.rv_cat _, G.rv_cat _, G.rv_cat _, trivial⟩ (Nat.le_of_ble_eq_true rfl) (ksX10_init x0 x1 x2 h)
/-! Jx4a65c_rangeCheckForAdd_d00df -/
def kJx4a65c_rangeCheckForAdd_d00df_12  (σ : Hp) : Option (Hp) := none
def kJx4a65c_rangeCheckForAdd_d00df (σ : Hp) (x0 : Nat) (x1 : Int32) : Option (Hp) := (gfi σ 22 1202 x0).bind (fun v1 => if v1 < x1 then kJx4a65c_rangeCheckForAdd_d00df_12 σ else if 0 ≤ x1 then some σ else kJx4a65c_rangeCheckForAdd_d00df_12 σ)
set_option maxRecDepth 20000 in
theorem ksJx4a65c_rangeCheckForAdd_d00df_12 {l : Launch} {G : Gt} {n0 u0 : Nat} {Z : Hp} (σ : Hp) (h : kJx4a65c_rangeCheckForAdd_d00df_12 σ = some Z) : GoC l G RJx4a65c "rangeCheckForAdd" cJx4a65c_rangeCheckForAdd_d00df 2 none 0 0 n0 u0 none Z 12 [] [] σ := by
  unfold kJx4a65c_rangeCheckForAdd_d00df_12 at h
  cases h
set_option maxRecDepth 20000 in
theorem ksJx4a65c_rangeCheckForAdd_d00df {l : Launch} {G : Gt} {n0 u0 : Nat} {σ : Hp} {Z : Hp} (x0 : Nat) (x1 : Int32) (h : kJx4a65c_rangeCheckForAdd_d00df σ x0 x1 = some Z) : GoC l G RJx4a65c "rangeCheckForAdd" cJx4a65c_rangeCheckForAdd_d00df 2 none 0 0 n0 u0 none Z 0 [(0, G.rv x0), (1, .int x1)] [] σ := by
  unfold kJx4a65c_rangeCheckForAdd_d00df at h
  refine GoC.iload_n 1 dJx4a65c_rangeCheckForAdd_d00df_0 rfl ?_
  refine GC.aload_n 0 dJx4a65c_rangeCheckForAdd_d00df_1 rfl ?_
  refine GC.geti 12 2 rfl (by decide) (by decide) fw_Jx4a65c_48 (Or.inl rfl) dJx4a65c_rangeCheckForAdd_d00df_2 h (fun v1 h => ?_)
  refine GoC.icmp_gt 12 dJx4a65c_rangeCheckForAdd_d00df_5 (by decide) h (fun h => ?_) (fun h => ?_)
  · refine GoC.sub [] rfl ?_
    exact ksJx4a65c_rangeCheckForAdd_d00df_12 _ h
  · refine GoC.iload_n 1 dJx4a65c_rangeCheckForAdd_d00df_8 rfl ?_
    refine GoC.if_ge 25 dJx4a65c_rangeCheckForAdd_d00df_9 (by decide) h (fun h => ?_) (fun h => ?_)
    · cases h
      exact GoC.vret dJx4a65c_rangeCheckForAdd_d00df_25 rfl
    · refine GoC.sub [] rfl ?_
      exact ksJx4a65c_rangeCheckForAdd_d00df_12 _ h
set_option maxRecDepth 20000 in
theorem ktJx4a65c_rangeCheckForAdd_d00df {l : Launch} {G : Gt} {σ : Hp} (x0 : Nat) (x1 : Int32) : ∀ Z, kJx4a65c_rangeCheckForAdd_d00df σ x0 x1 = some Z → MtC l G yJx4a65c_rangeCheckForAdd_d00df cJx4a65c_rangeCheckForAdd_d00df 2 none 0 0 [G.rv x0, .int x1] σ none Z := fun Z h => MtC.at (by decide +kernel) ⟨G.rv_cat _, rfl, trivial⟩ (Nat.le_of_ble_eq_true rfl) (ksJx4a65c_rangeCheckForAdd_d00df x0 x1 h)
/-! Jx4a65c_add_7a177 -/
def kJx4a65c_add_7a177_38  (x0 : Nat) (x1 : Int32) (x2 : Nat) (x3 : Int32) (x4 : Nat) (σ : Hp) : Option (Hp) := (cpR σ x4 x1 x4 (x1 + 1) (x3 - x1)).bind (fun σ1 => (rst σ1 x4 x1 x2).bind (fun σ2 => (pfi σ2 22 1202 x0 (x3 + 1)).bind (fun σ3 => some σ3)))
def kJx4a65c_add_7a177 (σ : Hp) (x0 : Nat) (x1 : Int32) (x2 : Nat) : Option (Hp) := ckd σ x0 22 ((kJx4a65c_rangeCheckForAdd_d00df σ x0 x1).bind (fun σ4 => (gfi σ4 22 1200 x0).bind (fun v5 => (pfi σ4 22 1200 x0 (v5 + 1)).bind (fun σ6 => (gfi σ6 22 1202 x0).bind (fun v7 => (gfr σ6 22 1201 x0).bind (fun v8 => (aln σ6 v8).bind (fun v9 => if v7 = v9 then ckd σ6 x0 22 (bd2 (kJx4a65c_grow_d5877 σ6 x0) (fun v10 σ11 => kJx4a65c_add_7a177_38 x0 x1 x2 v7 v10 σ11)) else kJx4a65c_add_7a177_38 x0 x1 x2 v7 v8 σ6)))))))
set_option maxRecDepth 20000 in
theorem ksJx4a65c_add_7a177_38 {l : Launch} {G : Gt} {n0 u0 : Nat} {Z : Hp} (x0 : Nat) (x1 : Int32) (x2 : Nat) (x3 : Int32) (x4 : Nat) (σ : Hp) (h : kJx4a65c_add_7a177_38 x0 x1 x2 x3 x4 σ = some Z) : GoC l G RJx4a65c "add" cJx4a65c_add_7a177 5 none 5 135 n0 u0 none Z 38 [(0, G.rv x0), (1, .int x1), (2, G.rv x2), (3, .int x3), (4, G.rv x4)] [] σ := by
  unfold kJx4a65c_add_7a177_38 at h
  refine GC.aload 4 dJx4a65c_add_7a177_38 rfl ?_
  refine GoC.iload_n 1 dJx4a65c_add_7a177_40 rfl ?_
  refine GC.aload 4 dJx4a65c_add_7a177_41 rfl ?_
  refine GoC.iload_n 1 dJx4a65c_add_7a177_43 rfl ?_
  refine GoC.iconst 1 dJx4a65c_add_7a177_44 (by decide) ?_
  refine GoC.iadd dJx4a65c_add_7a177_45 ?_
  refine GoC.iload_n 3 dJx4a65c_add_7a177_46 rfl ?_
  refine GoC.iload_n 1 dJx4a65c_add_7a177_47 rfl ?_
  refine GoC.isub dJx4a65c_add_7a177_48 ?_
  refine GC.copyR ac_Jx4a65c_112 ac_nat ac_stat ac_ini dJx4a65c_add_7a177_49 (Nat.le_of_ble_eq_true rfl) trivial (Nat.le_of_ble_eq_true (by decide)) h (fun σ1 h => ?_)
  refine GC.aload 4 dJx4a65c_add_7a177_52 rfl ?_
  refine GoC.iload_n 1 dJx4a65c_add_7a177_54 rfl ?_
  refine GC.aload_n 2 dJx4a65c_add_7a177_55 rfl ?_
  refine GC.aast dJx4a65c_add_7a177_56 h (fun σ2 h => ?_)
  refine GC.aload_n 0 dJx4a65c_add_7a177_57 rfl ?_
  refine GoC.iload_n 3 dJx4a65c_add_7a177_58 rfl ?_
  refine GoC.iconst 1 dJx4a65c_add_7a177_59 (by decide) ?_
  refine GoC.iadd dJx4a65c_add_7a177_60 ?_
  refine GC.puti 12 2 rfl (by decide) (by decide) (rfl) fw_Jx4a65c_48 (Or.inl rfl) (Or.inl rfl) dJx4a65c_add_7a177_61 h (fun σ3 h => ?_)
  cases h
  exact GoC.vret dJx4a65c_add_7a177_64 rfl
set_option maxRecDepth 20000 in
theorem ksJx4a65c_add_7a177 {l : Launch} {G : Gt} {n0 u0 : Nat} {σ : Hp} {Z : Hp} (x0 : Nat) (x1 : Int32) (x2 : Nat) (h : kJx4a65c_add_7a177 σ x0 x1 x2 = some Z) : GoC l G RJx4a65c "add" cJx4a65c_add_7a177 5 none 5 135 n0 u0 none Z 0 [(0, G.rv x0), (1, .int x1), (2, G.rv x2)] [] σ := by
  unfold kJx4a65c_add_7a177 at h
  refine GC.aload_n 0 dJx4a65c_add_7a177_0 rfl ?_
  refine GoC.iload_n 1 dJx4a65c_add_7a177_1 rfl ?_
  obtain ⟨h0, h⟩ := ckd_some h
  obtain ⟨σ4, hq, h⟩ := Option.bind_eq_some_iff.mp h
  refine GC.callvV (rest := []) 12 rfl h0 rfl [.int x1] dJx4a65c_add_7a177_2 kk_Jx4a65c_135 km_Jx4a65c_rangeCheckForAdd_d00df.1 km_Jx4a65c_rangeCheckForAdd_d00df.2 (ktJx4a65c_rangeCheckForAdd_d00df _ _ _ hq) rfl rfl (Nat.le_of_ble_eq_true rfl) (Nat.le_of_ble_eq_true rfl) trivial (Nat.le_of_ble_eq_true rfl) ?_
  refine GC.aload_n 0 dJx4a65c_add_7a177_5 rfl ?_
  refine GoC.dup dJx4a65c_add_7a177_6 (G.rv_cat _) ?_
  refine GC.geti 12 0 rfl (by decide) (by decide) fw_Jx4a65c_63 (Or.inr fs_Jx4a65c_63) dJx4a65c_add_7a177_7 h (fun v5 h => ?_)
  refine GoC.iconst 1 dJx4a65c_add_7a177_10 (by decide) ?_
  refine GoC.iadd dJx4a65c_add_7a177_11 ?_
  refine GC.puti 12 0 rfl (by decide) (by decide) (rfl) fw_Jx4a65c_63 (Or.inr fs_Jx4a65c_63) (Or.inl rfl) dJx4a65c_add_7a177_12 h (fun σ6 h => ?_)
  refine GC.aload_n 0 dJx4a65c_add_7a177_15 rfl ?_
  refine GC.geti 12 2 rfl (by decide) (by decide) fw_Jx4a65c_48 (Or.inl rfl) dJx4a65c_add_7a177_16 h (fun v7 h => ?_)
  refine GoC.dup dJx4a65c_add_7a177_19 (rfl) ?_
  refine GoC.istore_n [(0, G.rv x0), (1, .int x1), (2, G.rv x2), (3, .int v7)] dJx4a65c_add_7a177_20 (by decide) rfl ?_
  refine GC.aload_n 0 dJx4a65c_add_7a177_21 rfl ?_
  refine GC.getr 12 1 rfl (by decide) (by decide) fw_Jx4a65c_9 (Or.inl rfl) dJx4a65c_add_7a177_22 h (fun v8 h => ?_)
  refine GoC.dup dJx4a65c_add_7a177_25 (G.rv_cat _) ?_
  refine GC.astore [(0, G.rv x0), (1, .int x1), (2, G.rv x2), (3, .int v7), (4, G.rv v8)] dJx4a65c_add_7a177_26 (by decide) rfl ?_
  refine GC.alen dJx4a65c_add_7a177_28 h (fun v9 h => ?_)
  refine GoC.icmp_ne 38 dJx4a65c_add_7a177_29 (by decide) h (fun h => ?_) (fun h => ?_)
  · exact ksJx4a65c_add_7a177_38 _ _ _ _ _ _ h
  · refine GC.aload_n 0 dJx4a65c_add_7a177_32 rfl ?_
    obtain ⟨h0, h⟩ := ckd_some h
    obtain ⟨v10, σ11, hq, h⟩ := bd2_some h
    refine GC.callvR (rest := []) 12 rfl h0 rfl [] dJx4a65c_add_7a177_33 kk_Jx4a65c_129 km_Jx4a65c_grow_d5877.1 km_Jx4a65c_grow_d5877.2 (ktJx4a65c_grow_d5877 _ _ hq) rfl rfl (Nat.le_of_ble_eq_true rfl) (Nat.le_of_ble_eq_true rfl) trivial (Nat.le_of_ble_eq_true rfl) ?_
    refine GC.astore [(0, G.rv x0), (1, .int x1), (2, G.rv x2), (3, .int v7), (4, G.rv v10)] dJx4a65c_add_7a177_36 (by decide) rfl ?_
    exact ksJx4a65c_add_7a177_38 _ _ _ _ _ _ h
set_option maxRecDepth 20000 in
theorem ktJx4a65c_add_7a177 {l : Launch} {G : Gt} {σ : Hp} (x0 : Nat) (x1 : Int32) (x2 : Nat) : ∀ Z, kJx4a65c_add_7a177 σ x0 x1 x2 = some Z → MtC l G yJx4a65c_add_7a177 cJx4a65c_add_7a177 5 none 5 135 [G.rv x0, .int x1, G.rv x2] σ none Z := fun Z h => MtC.at (by decide +kernel) ⟨G.rv_cat _, rfl, G.rv_cat _, trivial⟩ (Nat.le_of_ble_eq_true rfl) (ksJx4a65c_add_7a177 x0 x1 x2 h)
/-! X10_lineUpBelow -/
def kX10_lineUpBelow_2  : Nat → Nat → Nat → Int32 → Hp → Option (Hp)
  | 0, _, _, _, _ => none
  | n + 1, x0, x1, x2, σ => (gfi σ 13 302 x1).bind (fun v1 => if v1 ≤ x2 then some σ else (gfi σ 13 300 x1).bind (fun v2 => if v2 = 0 then (gfr σ 20 1000 x0).bind (fun v3 => (gfr σ 13 305 x1).bind (fun v4 => (ald σ 1 v4 x2).bind (fun v5 => ckd σ v3 17 ((kX7_at σ v3 v5).bind (fun v6 => (gfi σ 13 308 x1).bind (fun v7 => (pfi σ 13 308 v6 (v7 + 1)).bind (fun σ8 => (gfr σ8 13 304 x1).bind (fun v9 => (ald σ8 1 v9 x2).bind (fun v10 => (pfi σ8 13 309 v6 v10).bind (fun σ11 => (gfr σ11 20 1002 x0).bind (fun v12 => (gfi σ11 13 306 x1).bind (fun v13 => ckd σ11 v12 22 ((kJx4a65c_add_7a177 σ11 v12 ((v13 + 1) + x2) v6).bind (fun σ14 => kX10_lineUpBelow_2 n x0 x1 (x2 + 1) σ14)))))))))))))) else some σ))
def kX10_lineUpBelow (σ : Hp) (x0 : Nat) (x1 : Nat) : Option (Hp) := kX10_lineUpBelow_2 FU x0 x1 0 σ
set_option maxRecDepth 20000 in
theorem ksX10_lineUpBelow_2 {l : Launch} {G : Gt} {n0 u0 : Nat} {Z : Hp} (n : Nat) : ∀ (x0 : Nat) (x1 : Nat) (x2 : Int32) (σ : Hp), kX10_lineUpBelow_2 n x0 x1 x2 σ = some Z → GoC l G RX10 "lineUpBelow" cX10_lineUpBelow 4 none 6 159 n0 u0 none Z 2 [(0, G.rv x0), (1, G.rv x1), (2, .int x2)] [] σ := by
  induction n with
  | zero => intro x0 x1 x2 σ h; rw [kX10_lineUpBelow_2] at h; cases h
  | succ n ih =>
    intro x0 x1 x2 σ h
    rw [kX10_lineUpBelow_2] at h
    refine GoC.iload_n 2 dX10_lineUpBelow_2 rfl ?_
    refine GC.aload_n 1 dX10_lineUpBelow_3 rfl ?_
    refine GC.geti 3 2 rfl (by decide) (by decide) fw_X10_53 (Or.inl rfl) dX10_lineUpBelow_4 h (fun v1 h => ?_)
    refine GoC.icmp_ge 73 dX10_lineUpBelow_7 (by decide) h (fun h => ?_) (fun h => ?_)
    · cases h
      exact GoC.vret dX10_lineUpBelow_73 rfl
    · refine GC.aload_n 1 dX10_lineUpBelow_10 rfl ?_
      refine GC.geti 3 0 rfl (by decide) (by decide) fw_X10_45 (Or.inl rfl) dX10_lineUpBelow_11 h (fun v2 h => ?_)
      refine GoC.if_ne 73 dX10_lineUpBelow_14 (by decide) h (fun h => ?_) (fun h => ?_)
      · cases h
        exact GoC.vret dX10_lineUpBelow_73 rfl
      · refine GC.aload_n 0 dX10_lineUpBelow_17 rfl ?_
        refine GC.getr 10 0 rfl (by decide) (by decide) fw_X10_18 (Or.inl rfl) dX10_lineUpBelow_18 h (fun v3 h => ?_)
        refine GC.aload_n 1 dX10_lineUpBelow_21 rfl ?_
        refine GC.getr 3 5 rfl (by decide) (by decide) fw_X10_64 (Or.inl rfl) dX10_lineUpBelow_22 h (fun v4 h => ?_)
        refine GoC.iload_n 2 dX10_lineUpBelow_25 rfl ?_
        refine GC.iald dX10_lineUpBelow_26 h (fun v5 h => ?_)
        obtain ⟨h0, h⟩ := ckd_some h
        obtain ⟨v6, hq, h⟩ := Option.bind_eq_some_iff.mp h
        refine GC.callvR (rest := []) 7 rfl h0 rfl [.int v5] dX10_lineUpBelow_27 kk_X10_67 km_X7_at.1 km_X7_at.2 (ktX7_at _ _ _ hq) rfl rfl (Nat.le_of_ble_eq_true rfl) (Nat.le_of_ble_eq_true rfl) trivial (Nat.le_of_ble_eq_true rfl) ?_
        refine GC.astore_n [(0, G.rv x0), (1, G.rv x1), (2, .int x2), (3, G.rv v6)] dX10_lineUpBelow_30 (by decide) rfl ?_
        refine GC.aload_n 3 dX10_lineUpBelow_31 rfl ?_
        refine GC.aload_n 1 dX10_lineUpBelow_32 rfl ?_
        refine GC.geti 3 8 rfl (by decide) (by decide) fw_X10_92 (Or.inl rfl) dX10_lineUpBelow_33 h (fun v7 h => ?_)
        refine GoC.iconst 1 dX10_lineUpBelow_36 (by decide) ?_
        refine GoC.iadd dX10_lineUpBelow_37 ?_
        refine GC.puti 3 8 rfl (by decide) (by decide) (rfl) fw_X10_92 (Or.inl rfl) (Or.inl rfl) dX10_lineUpBelow_38 h (fun σ8 h => ?_)
        refine GC.aload_n 3 dX10_lineUpBelow_41 rfl ?_
        refine GC.aload_n 1 dX10_lineUpBelow_42 rfl ?_
        refine GC.getr 3 4 rfl (by decide) (by decide) fw_X10_56 (Or.inl rfl) dX10_lineUpBelow_43 h (fun v9 h => ?_)
        refine GoC.iload_n 2 dX10_lineUpBelow_46 rfl ?_
        refine GC.iald dX10_lineUpBelow_47 h (fun v10 h => ?_)
        refine GC.puti 3 9 rfl (by decide) (by decide) (rfl) fw_X10_95 (Or.inl rfl) (Or.inl rfl) dX10_lineUpBelow_48 h (fun σ11 h => ?_)
        refine GC.aload_n 0 dX10_lineUpBelow_51 rfl ?_
        refine GC.getr 10 2 rfl (by decide) (by decide) fw_X10_12 (Or.inl rfl) dX10_lineUpBelow_52 h (fun v12 h => ?_)
        refine GC.aload_n 1 dX10_lineUpBelow_55 rfl ?_
        refine GC.geti 3 6 rfl (by decide) (by decide) fw_X10_71 (Or.inl rfl) dX10_lineUpBelow_56 h (fun v13 h => ?_)
        refine GoC.iconst 1 dX10_lineUpBelow_59 (by decide) ?_
        refine GoC.iadd dX10_lineUpBelow_60 ?_
        refine GoC.iload_n 2 dX10_lineUpBelow_61 rfl ?_
        refine GoC.iadd dX10_lineUpBelow_62 ?_
        refine GC.aload_n 3 dX10_lineUpBelow_63 rfl ?_
        obtain ⟨h0, h⟩ := ckd_some h
        obtain ⟨σ14, hq, h⟩ := Option.bind_eq_some_iff.mp h
        refine GC.callvV (rest := []) 12 rfl h0 rfl [.int ((v13 + 1) + x2), G.rv v6] dX10_lineUpBelow_64 kk_X10_109 km_Jx4a65c_add_7a177.1 km_Jx4a65c_add_7a177.2 (ktJx4a65c_add_7a177 _ _ _ _ hq) rfl rfl (Nat.le_of_ble_eq_true rfl) (Nat.le_of_ble_eq_true rfl) trivial (Nat.le_of_ble_eq_true rfl) ?_
        refine GoC.iinc (w := 1) 2 [(0, G.rv x0), (1, G.rv x1), (2, .int (x2 + 1)), (3, G.rv v6)] dX10_lineUpBelow_67 rfl (by decide) (by decide) rfl ?_
        refine GoC.goto 2 dX10_lineUpBelow_70 (by decide) ?_
        refine GoC.sub [0, 1, 2] rfl ?_
        exact ih _ _ _ _ h
set_option maxRecDepth 20000 in
theorem ksX10_lineUpBelow {l : Launch} {G : Gt} {n0 u0 : Nat} {σ : Hp} {Z : Hp} (x0 : Nat) (x1 : Nat) (h : kX10_lineUpBelow σ x0 x1 = some Z) : GoC l G RX10 "lineUpBelow" cX10_lineUpBelow 4 none 6 159 n0 u0 none Z 0 [(0, G.rv x0), (1, G.rv x1)] [] σ := by
  unfold kX10_lineUpBelow at h
  refine GoC.iconst 0 dX10_lineUpBelow_0 (by decide) ?_
  refine GoC.istore_n [(0, G.rv x0), (1, G.rv x1), (2, .int 0)] dX10_lineUpBelow_1 (by decide) rfl ?_
  exact ksX10_lineUpBelow_2 _ _ _ _ _ h
set_option maxRecDepth 20000 in
theorem ktX10_lineUpBelow {l : Launch} {G : Gt} {σ : Hp} (x0 : Nat) (x1 : Nat) : ∀ Z, kX10_lineUpBelow σ x0 x1 = some Z → MtC l G yX10_lineUpBelow cX10_lineUpBelow 4 none 6 159 [G.rv x0, G.rv x1] σ none Z := fun Z h => MtC.at (by decide +kernel) ⟨G.rv_cat _, G.rv_cat _, trivial⟩ (Nat.le_of_ble_eq_true rfl) (ksX10_lineUpBelow x0 x1 h)
/-! X10_gatherFromBelow -/
def kX10_gatherFromBelow_26  : Nat → Nat → Nat → Int32 → Hp → Option (Hp)
  | 0, _, _, _, _ => none
  | n + 1, x0, x1, x2, σ => (gfi σ 13 302 x1).bind (fun v1 => if v1 ≤ x2 then some σ else (gfi σ 13 300 x1).bind (fun v2 => if v2 = 0 then (gfr σ 20 1000 x0).bind (fun v3 => (gfr σ 13 305 x1).bind (fun v4 => (ald σ 1 v4 x2).bind (fun v5 => ckd σ v3 17 ((kX7_at σ v3 v5).bind (fun v6 => (gfi σ 13 307 x1).bind (fun v7 => (gfi σ 13 307 v6).bind (fun v8 => (pfi σ 13 307 x1 (v7 + v8)).bind (fun σ9 => (gfi σ9 13 310 x1).bind (fun v10 => (gfi σ9 13 310 v6).bind (fun v11 => (pfi σ9 13 310 x1 (v10 + v11)).bind (fun σ12 => kX10_gatherFromBelow_26 n x0 x1 (x2 + 1) σ12))))))))))) else some σ))
def kX10_gatherFromBelow_21  (x0 : Nat) (x1 : Nat) (y0 : Nat) (y1 : Int32) (σ : Hp) : Option (Hp) := (pfi σ 13 310 y0 y1).bind (fun σ13 => kX10_gatherFromBelow_26 FU x0 x1 0 σ13)
def kX10_gatherFromBelow (σ : Hp) (x0 : Nat) (x1 : Nat) : Option (Hp) := (pfi σ 13 307 x1 1).bind (fun σ14 => (gfi σ14 13 300 x1).bind (fun v15 => if v15 = 0 then kX10_gatherFromBelow_21 x0 x1 x1 0 σ14 else (gfi σ14 13 302 x1).bind (fun v16 => kX10_gatherFromBelow_21 x0 x1 x1 v16 σ14)))
set_option maxRecDepth 20000 in
theorem ksX10_gatherFromBelow_26 {l : Launch} {G : Gt} {n0 u0 : Nat} {Z : Hp} (n : Nat) : ∀ (x0 : Nat) (x1 : Nat) (x2 : Int32) (σ : Hp), kX10_gatherFromBelow_26 n x0 x1 x2 σ = some Z → GoC l G RX10 "gatherFromBelow" cX10_gatherFromBelow 4 none 4 85 n0 u0 none Z 26 [(0, G.rv x0), (1, G.rv x1), (2, .int x2)] [] σ := by
  induction n with
  | zero => intro x0 x1 x2 σ h; rw [kX10_gatherFromBelow_26] at h; cases h
  | succ n ih =>
    intro x0 x1 x2 σ h
    rw [kX10_gatherFromBelow_26] at h
    refine GoC.iload_n 2 dX10_gatherFromBelow_26 rfl ?_
    refine GC.aload_n 1 dX10_gatherFromBelow_27 rfl ?_
    refine GC.geti 3 2 rfl (by decide) (by decide) fw_X10_53 (Or.inl rfl) dX10_gatherFromBelow_28 h (fun v1 h => ?_)
    refine GoC.icmp_ge 87 dX10_gatherFromBelow_31 (by decide) h (fun h => ?_) (fun h => ?_)
    · cases h
      exact GoC.vret dX10_gatherFromBelow_87 rfl
    · refine GC.aload_n 1 dX10_gatherFromBelow_34 rfl ?_
      refine GC.geti 3 0 rfl (by decide) (by decide) fw_X10_45 (Or.inl rfl) dX10_gatherFromBelow_35 h (fun v2 h => ?_)
      refine GoC.if_ne 87 dX10_gatherFromBelow_38 (by decide) h (fun h => ?_) (fun h => ?_)
      · cases h
        exact GoC.vret dX10_gatherFromBelow_87 rfl
      · refine GC.aload_n 0 dX10_gatherFromBelow_41 rfl ?_
        refine GC.getr 10 0 rfl (by decide) (by decide) fw_X10_18 (Or.inl rfl) dX10_gatherFromBelow_42 h (fun v3 h => ?_)
        refine GC.aload_n 1 dX10_gatherFromBelow_45 rfl ?_
        refine GC.getr 3 5 rfl (by decide) (by decide) fw_X10_64 (Or.inl rfl) dX10_gatherFromBelow_46 h (fun v4 h => ?_)
        refine GoC.iload_n 2 dX10_gatherFromBelow_49 rfl ?_
        refine GC.iald dX10_gatherFromBelow_50 h (fun v5 h => ?_)
        obtain ⟨h0, h⟩ := ckd_some h
        obtain ⟨v6, hq, h⟩ := Option.bind_eq_some_iff.mp h
        refine GC.callvR (rest := []) 7 rfl h0 rfl [.int v5] dX10_gatherFromBelow_51 kk_X10_67 km_X7_at.1 km_X7_at.2 (ktX7_at _ _ _ hq) rfl rfl (Nat.le_of_ble_eq_true rfl) (Nat.le_of_ble_eq_true rfl) trivial (Nat.le_of_ble_eq_true rfl) ?_
        refine GC.astore_n [(0, G.rv x0), (1, G.rv x1), (2, .int x2), (3, G.rv v6)] dX10_gatherFromBelow_54 (by decide) rfl ?_
        refine GC.aload_n 1 dX10_gatherFromBelow_55 rfl ?_
        refine GoC.dup dX10_gatherFromBelow_56 (G.rv_cat _) ?_
        refine GC.geti 3 7 rfl (by decide) (by decide) fw_X10_74 (Or.inl rfl) dX10_gatherFromBelow_57 h (fun v7 h => ?_)
        refine GC.aload_n 3 dX10_gatherFromBelow_60 rfl ?_
        refine GC.geti 3 7 rfl (by decide) (by decide) fw_X10_74 (Or.inl rfl) dX10_gatherFromBelow_61 h (fun v8 h => ?_)
        refine GoC.iadd dX10_gatherFromBelow_64 ?_
        refine GC.puti 3 7 rfl (by decide) (by decide) (rfl) fw_X10_74 (Or.inl rfl) (Or.inl rfl) dX10_gatherFromBelow_65 h (fun σ9 h => ?_)
        refine GC.aload_n 1 dX10_gatherFromBelow_68 rfl ?_
        refine GoC.dup dX10_gatherFromBelow_69 (G.rv_cat _) ?_
        refine GC.geti 3 10 rfl (by decide) (by decide) fw_X10_112 (Or.inl rfl) dX10_gatherFromBelow_70 h (fun v10 h => ?_)
        refine GC.aload_n 3 dX10_gatherFromBelow_73 rfl ?_
        refine GC.geti 3 10 rfl (by decide) (by decide) fw_X10_112 (Or.inl rfl) dX10_gatherFromBelow_74 h (fun v11 h => ?_)
        refine GoC.iadd dX10_gatherFromBelow_77 ?_
        refine GC.puti 3 10 rfl (by decide) (by decide) (rfl) fw_X10_112 (Or.inl rfl) (Or.inl rfl) dX10_gatherFromBelow_78 h (fun σ12 h => ?_)
        refine GoC.iinc (w := 1) 2 [(0, G.rv x0), (1, G.rv x1), (2, .int (x2 + 1)), (3, G.rv v6)] dX10_gatherFromBelow_81 rfl (by decide) (by decide) rfl ?_
        refine GoC.goto 26 dX10_gatherFromBelow_84 (by decide) ?_
        refine GoC.sub [0, 1, 2] rfl ?_
        exact ih _ _ _ _ h
set_option maxRecDepth 20000 in
theorem ksX10_gatherFromBelow_21 {l : Launch} {G : Gt} {n0 u0 : Nat} {Z : Hp} (x0 : Nat) (x1 : Nat) (y0 : Nat) (y1 : Int32) (σ : Hp) (h : kX10_gatherFromBelow_21 x0 x1 y0 y1 σ = some Z) : GoC l G RX10 "gatherFromBelow" cX10_gatherFromBelow 4 none 4 85 n0 u0 none Z 21 [(0, G.rv x0), (1, G.rv x1)] [.int y1, G.rv y0] σ := by
  unfold kX10_gatherFromBelow_21 at h
  refine GC.puti 3 10 rfl (by decide) (by decide) (rfl) fw_X10_112 (Or.inl rfl) (Or.inl rfl) dX10_gatherFromBelow_21 h (fun σ13 h => ?_)
  refine GoC.iconst 0 dX10_gatherFromBelow_24 (by decide) ?_
  refine GoC.istore_n [(0, G.rv x0), (1, G.rv x1), (2, .int 0)] dX10_gatherFromBelow_25 (by decide) rfl ?_
  exact ksX10_gatherFromBelow_26 _ _ _ _ _ h
set_option maxRecDepth 20000 in
theorem ksX10_gatherFromBelow {l : Launch} {G : Gt} {n0 u0 : Nat} {σ : Hp} {Z : Hp} (x0 : Nat) (x1 : Nat) (h : kX10_gatherFromBelow σ x0 x1 = some Z) : GoC l G RX10 "gatherFromBelow" cX10_gatherFromBelow 4 none 4 85 n0 u0 none Z 0 [(0, G.rv x0), (1, G.rv x1)] [] σ := by
  unfold kX10_gatherFromBelow at h
  refine GC.aload_n 1 dX10_gatherFromBelow_0 rfl ?_
  refine GoC.iconst 1 dX10_gatherFromBelow_1 (by decide) ?_
  refine GC.puti 3 7 rfl (by decide) (by decide) (rfl) fw_X10_74 (Or.inl rfl) (Or.inl rfl) dX10_gatherFromBelow_2 h (fun σ14 h => ?_)
  refine GC.aload_n 1 dX10_gatherFromBelow_5 rfl ?_
  refine GC.aload_n 1 dX10_gatherFromBelow_6 rfl ?_
  refine GC.geti 3 0 rfl (by decide) (by decide) fw_X10_45 (Or.inl rfl) dX10_gatherFromBelow_7 h (fun v15 h => ?_)
  refine GoC.if_eq 20 dX10_gatherFromBelow_10 (by decide) h (fun h => ?_) (fun h => ?_)
  · refine GoC.iconst 0 dX10_gatherFromBelow_20 (by decide) ?_
    exact ksX10_gatherFromBelow_21 _ _ _ _ _ h
  · refine GC.aload_n 1 dX10_gatherFromBelow_13 rfl ?_
    refine GC.geti 3 2 rfl (by decide) (by decide) fw_X10_53 (Or.inl rfl) dX10_gatherFromBelow_14 h (fun v16 h => ?_)
    refine GoC.goto 21 dX10_gatherFromBelow_17 (by decide) ?_
    exact ksX10_gatherFromBelow_21 _ _ _ _ _ h
set_option maxRecDepth 20000 in
theorem ktX10_gatherFromBelow {l : Launch} {G : Gt} {σ : Hp} (x0 : Nat) (x1 : Nat) : ∀ Z, kX10_gatherFromBelow σ x0 x1 = some Z → MtC l G yX10_gatherFromBelow cX10_gatherFromBelow 4 none 4 85 [G.rv x0, G.rv x1] σ none Z := fun Z h => MtC.at (by decide +kernel) ⟨G.rv_cat _, G.rv_cat _, trivial⟩ (Nat.le_of_ble_eq_true rfl) (ksX10_gatherFromBelow x0 x1 h)
/-! X10_renew -/
def kX10_renew_103  : Nat → Nat → Int32 → Hp → Option (Hp)
  | 0, _, _, _ => none
  | n + 1, x0, x2, σ => if x2 < 0 then some σ else (gfr σ 20 1002 x0).bind (fun v1 => ckd σ v1 22 ((kJx4a65c_get_915e3 σ v1 x2).bind (fun v2 => ckc σ v2 13 (ckd σ x0 20 ((kX10_gatherFromBelow σ x0 v2).bind (fun σ3 => kX10_renew_103 n x0 (x2 + (-1)) σ3))))))
def kX10_renew_93  (x0 : Nat) (σ : Hp) : Option (Hp) := (gfr σ 20 1002 x0).bind (fun v4 => ckd σ v4 22 ((kJx4a65c_size_8abf5 σ v4).bind (fun v5 => kX10_renew_103 FU x0 (v5 - 1) σ)))
def kX10_renew_43  : Nat → Nat → Int32 → Hp → Option (Hp)
  | 0, _, _, _ => none
  | n + 1, x0, x2, σ => (gfr σ 20 1000 x0).bind (fun v6 => (gfi σ 17 709 v6).bind (fun v7 => if v7 ≤ x2 then kX10_renew_93 x0 σ else (gfr σ 20 1002 x0).bind (fun v8 => ckd σ v8 22 ((kJx4a65c_size_8abf5 σ v8).bind (fun v9 => if v9 ≤ x2 then kX10_renew_93 x0 σ else (gfr σ 20 1002 x0).bind (fun v10 => ckd σ v10 22 ((kJx4a65c_get_915e3 σ v10 x2).bind (fun v11 => ckc σ v11 13 ((pfi σ 13 306 v11 x2).bind (fun σ12 => ckd σ12 x0 20 ((kX10_lineUpBelow σ12 x0 v11).bind (fun σ13 => kX10_renew_43 n x0 (x2 + 1) σ13))))))))))))
def kX10_renew (σ : Hp) (x0 : Nat) : Option (Hp) := (gfr σ 20 1002 x0).bind (fun v14 => ckd σ v14 22 ((kJx4a65c_clear_da8c8 σ v14).bind (fun σ15 => (gfr σ15 20 1000 x0).bind (fun v16 => (gfr σ15 20 1000 x0).bind (fun v17 => (gfi σ15 17 710 v17).bind (fun v18 => ckd σ15 v16 17 ((kX7_at σ15 v16 v18).bind (fun v19 => (pfi σ15 13 308 v19 0).bind (fun σ20 => (pfi σ20 13 309 v19 (-1)).bind (fun σ21 => (gfr σ21 20 1002 x0).bind (fun v22 => ckd σ21 v22 22 (bd2 (kJx4a65c_add_9ea2d σ21 v22 v19) (fun v23 σ24 => kX10_renew_43 FU x0 0 σ24)))))))))))))
set_option maxRecDepth 20000 in
theorem ksX10_renew_103 {l : Launch} {G : Gt} {n0 u0 : Nat} {Z : Hp} (n : Nat) : ∀ (x0 : Nat) (x2 : Int32) (σ : Hp), kX10_renew_103 n x0 x2 σ = some Z → GoC l G RX10 "renew" cX10_renew 4 none 7 182 n0 u0 none Z 103 [(0, G.rv x0), (2, .int x2)] [] σ := by
  induction n with
  | zero => intro x0 x2 σ h; rw [kX10_renew_103] at h; cases h
  | succ n ih =>
    intro x0 x2 σ h
    rw [kX10_renew_103] at h
    refine GoC.iload_n 1 dX10_renew_103 rfl ?_
    refine GoC.if_lt 128 dX10_renew_104 (by decide) h (fun h => ?_) (fun h => ?_)
    · cases h
      exact GoC.vret dX10_renew_128 rfl
    · refine GC.aload_n 0 dX10_renew_107 rfl ?_
      refine GC.aload_n 0 dX10_renew_108 rfl ?_
      refine GC.getr 10 2 rfl (by decide) (by decide) fw_X10_12 (Or.inl rfl) dX10_renew_109 h (fun v1 h => ?_)
      refine GoC.iload_n 1 dX10_renew_112 rfl ?_
      obtain ⟨h0, h⟩ := ckd_some h
      obtain ⟨v2, hq, h⟩ := Option.bind_eq_some_iff.mp h
      refine GC.callvR (rest := [G.rv x0]) 12 rfl h0 rfl [.int x2] dX10_renew_113 kk_X10_39 km_Jx4a65c_get_915e3.1 km_Jx4a65c_get_915e3.2 (ktJx4a65c_get_915e3 _ _ _ hq) rfl rfl (Nat.le_of_ble_eq_true rfl) (Nat.le_of_ble_eq_true rfl) ⟨G.rv_cat _, trivial⟩ (Nat.le_of_ble_eq_true rfl) ?_
      refine GC.castS (c := 3) rfl cl_X10_43 dX10_renew_116 h (fun h => ?_)
      obtain ⟨h0, h⟩ := ckd_some h
      obtain ⟨σ3, hq, h⟩ := Option.bind_eq_some_iff.mp h
      refine GC.callvV (rest := []) 10 rfl h0 rfl [G.rv v2] dX10_renew_119 kk_X10_106 km_X10_gatherFromBelow.1 km_X10_gatherFromBelow.2 (ktX10_gatherFromBelow _ _ _ hq) rfl rfl (Nat.le_of_ble_eq_true rfl) (Nat.le_of_ble_eq_true rfl) trivial (Nat.le_of_ble_eq_true rfl) ?_
      refine GoC.iinc (w := (-1)) 1 [(0, G.rv x0), (2, .int (x2 + (-1)))] dX10_renew_122 rfl (by decide) (by decide) rfl ?_
      refine GoC.goto 103 dX10_renew_125 (by decide) ?_
      exact ih _ _ _ h
set_option maxRecDepth 20000 in
theorem ksX10_renew_93 {l : Launch} {G : Gt} {n0 u0 : Nat} {Z : Hp} (x0 : Nat) (σ : Hp) (h : kX10_renew_93 x0 σ = some Z) : GoC l G RX10 "renew" cX10_renew 4 none 7 182 n0 u0 none Z 93 [(0, G.rv x0)] [] σ := by
  unfold kX10_renew_93 at h
  refine GC.aload_n 0 dX10_renew_93 rfl ?_
  refine GC.getr 10 2 rfl (by decide) (by decide) fw_X10_12 (Or.inl rfl) dX10_renew_94 h (fun v4 h => ?_)
  obtain ⟨h0, h⟩ := ckd_some h
  obtain ⟨v5, hq, h⟩ := Option.bind_eq_some_iff.mp h
  refine GC.callvI (rest := []) 12 rfl h0 rfl [] dX10_renew_97 kk_X10_35 km_Jx4a65c_size_8abf5.1 km_Jx4a65c_size_8abf5.2 (ktJx4a65c_size_8abf5 _ _ hq) rfl rfl (Nat.le_of_ble_eq_true rfl) (Nat.le_of_ble_eq_true rfl) trivial (Nat.le_of_ble_eq_true rfl) ?_
  refine GoC.iconst 1 dX10_renew_100 (by decide) ?_
  refine GoC.isub dX10_renew_101 ?_
  refine GoC.istore_n [(0, G.rv x0), (2, .int (v5 - 1))] dX10_renew_102 (by decide) rfl ?_
  exact ksX10_renew_103 _ _ _ _ h
set_option maxRecDepth 20000 in
theorem ksX10_renew_43 {l : Launch} {G : Gt} {n0 u0 : Nat} {Z : Hp} (n : Nat) : ∀ (x0 : Nat) (x2 : Int32) (σ : Hp), kX10_renew_43 n x0 x2 σ = some Z → GoC l G RX10 "renew" cX10_renew 4 none 7 182 n0 u0 none Z 43 [(0, G.rv x0), (2, .int x2)] [] σ := by
  induction n with
  | zero => intro x0 x2 σ h; rw [kX10_renew_43] at h; cases h
  | succ n ih =>
    intro x0 x2 σ h
    rw [kX10_renew_43] at h
    refine GoC.iload_n 1 dX10_renew_43 rfl ?_
    refine GC.aload_n 0 dX10_renew_44 rfl ?_
    refine GC.getr 10 0 rfl (by decide) (by decide) fw_X10_18 (Or.inl rfl) dX10_renew_45 h (fun v6 h => ?_)
    refine GC.geti 7 9 rfl (by decide) (by decide) fw_X10_26 (Or.inl rfl) dX10_renew_48 h (fun v7 h => ?_)
    refine GoC.icmp_ge 93 dX10_renew_51 (by decide) h (fun h => ?_) (fun h => ?_)
    · refine GoC.sub [0] rfl ?_
      exact ksX10_renew_93 _ _ h
    · refine GoC.iload_n 1 dX10_renew_54 rfl ?_
      refine GC.aload_n 0 dX10_renew_55 rfl ?_
      refine GC.getr 10 2 rfl (by decide) (by decide) fw_X10_12 (Or.inl rfl) dX10_renew_56 h (fun v8 h => ?_)
      obtain ⟨h0, h⟩ := ckd_some h
      obtain ⟨v9, hq, h⟩ := Option.bind_eq_some_iff.mp h
      refine GC.callvI (rest := [.int x2]) 12 rfl h0 rfl [] dX10_renew_59 kk_X10_35 km_Jx4a65c_size_8abf5.1 km_Jx4a65c_size_8abf5.2 (ktJx4a65c_size_8abf5 _ _ hq) rfl rfl (Nat.le_of_ble_eq_true rfl) (Nat.le_of_ble_eq_true rfl) ⟨rfl, trivial⟩ (Nat.le_of_ble_eq_true rfl) ?_
      refine GoC.icmp_ge 93 dX10_renew_62 (by decide) h (fun h => ?_) (fun h => ?_)
      · refine GoC.sub [0] rfl ?_
        exact ksX10_renew_93 _ _ h
      · refine GC.aload_n 0 dX10_renew_65 rfl ?_
        refine GC.getr 10 2 rfl (by decide) (by decide) fw_X10_12 (Or.inl rfl) dX10_renew_66 h (fun v10 h => ?_)
        refine GoC.iload_n 1 dX10_renew_69 rfl ?_
        obtain ⟨h0, h⟩ := ckd_some h
        obtain ⟨v11, hq, h⟩ := Option.bind_eq_some_iff.mp h
        refine GC.callvR (rest := []) 12 rfl h0 rfl [.int x2] dX10_renew_70 kk_X10_39 km_Jx4a65c_get_915e3.1 km_Jx4a65c_get_915e3.2 (ktJx4a65c_get_915e3 _ _ _ hq) rfl rfl (Nat.le_of_ble_eq_true rfl) (Nat.le_of_ble_eq_true rfl) trivial (Nat.le_of_ble_eq_true rfl) ?_
        refine GC.castS (c := 3) rfl cl_X10_43 dX10_renew_73 h (fun h => ?_)
        refine GC.astore_n [(0, G.rv x0), (2, .int x2), (3, G.rv v11)] dX10_renew_76 (by decide) rfl ?_
        refine GC.aload_n 2 dX10_renew_77 rfl ?_
        refine GoC.iload_n 1 dX10_renew_78 rfl ?_
        refine GC.puti 3 6 rfl (by decide) (by decide) (rfl) fw_X10_71 (Or.inl rfl) (Or.inl rfl) dX10_renew_79 h (fun σ12 h => ?_)
        refine GC.aload_n 0 dX10_renew_82 rfl ?_
        refine GC.aload_n 2 dX10_renew_83 rfl ?_
        obtain ⟨h0, h⟩ := ckd_some h
        obtain ⟨σ13, hq, h⟩ := Option.bind_eq_some_iff.mp h
        refine GC.callvV (rest := []) 10 rfl h0 rfl [G.rv v11] dX10_renew_84 kk_X10_102 km_X10_lineUpBelow.1 km_X10_lineUpBelow.2 (ktX10_lineUpBelow _ _ _ hq) rfl rfl (Nat.le_of_ble_eq_true rfl) (Nat.le_of_ble_eq_true rfl) trivial (Nat.le_of_ble_eq_true rfl) ?_
        refine GoC.iinc (w := 1) 1 [(0, G.rv x0), (2, .int (x2 + 1)), (3, G.rv v11)] dX10_renew_87 rfl (by decide) (by decide) rfl ?_
        refine GoC.goto 43 dX10_renew_90 (by decide) ?_
        refine GoC.sub [0, 1] rfl ?_
        exact ih _ _ _ h
set_option maxRecDepth 20000 in
theorem ksX10_renew {l : Launch} {G : Gt} {n0 u0 : Nat} {σ : Hp} {Z : Hp} (x0 : Nat) (h : kX10_renew σ x0 = some Z) : GoC l G RX10 "renew" cX10_renew 4 none 7 182 n0 u0 none Z 0 [(0, G.rv x0)] [] σ := by
  unfold kX10_renew at h
  refine GC.aload_n 0 dX10_renew_0 rfl ?_
  refine GC.getr 10 2 rfl (by decide) (by decide) fw_X10_12 (Or.inl rfl) dX10_renew_1 h (fun v14 h => ?_)
  obtain ⟨h0, h⟩ := ckd_some h
  obtain ⟨σ15, hq, h⟩ := Option.bind_eq_some_iff.mp h
  refine GC.callvV (rest := []) 12 rfl h0 rfl [] dX10_renew_4 kk_X10_86 km_Jx4a65c_clear_da8c8.1 km_Jx4a65c_clear_da8c8.2 (ktJx4a65c_clear_da8c8 _ _ hq) rfl rfl (Nat.le_of_ble_eq_true rfl) (Nat.le_of_ble_eq_true rfl) trivial (Nat.le_of_ble_eq_true rfl) ?_
  refine GC.aload_n 0 dX10_renew_7 rfl ?_
  refine GC.getr 10 0 rfl (by decide) (by decide) fw_X10_18 (Or.inl rfl) dX10_renew_8 h (fun v16 h => ?_)
  refine GC.aload_n 0 dX10_renew_11 rfl ?_
  refine GC.getr 10 0 rfl (by decide) (by decide) fw_X10_18 (Or.inl rfl) dX10_renew_12 h (fun v17 h => ?_)
  refine GC.geti 7 10 rfl (by decide) (by decide) fw_X10_89 (Or.inl rfl) dX10_renew_15 h (fun v18 h => ?_)
  obtain ⟨h0, h⟩ := ckd_some h
  obtain ⟨v19, hq, h⟩ := Option.bind_eq_some_iff.mp h
  refine GC.callvR (rest := []) 7 rfl h0 rfl [.int v18] dX10_renew_18 kk_X10_67 km_X7_at.1 km_X7_at.2 (ktX7_at _ _ _ hq) rfl rfl (Nat.le_of_ble_eq_true rfl) (Nat.le_of_ble_eq_true rfl) trivial (Nat.le_of_ble_eq_true rfl) ?_
  refine GC.astore_n [(0, G.rv x0), (1, G.rv v19)] dX10_renew_21 (by decide) rfl ?_
  refine GC.aload_n 1 dX10_renew_22 rfl ?_
  refine GoC.iconst 0 dX10_renew_23 (by decide) ?_
  refine GC.puti 3 8 rfl (by decide) (by decide) (rfl) fw_X10_92 (Or.inl rfl) (Or.inl rfl) dX10_renew_24 h (fun σ20 h => ?_)
  refine GC.aload_n 1 dX10_renew_27 rfl ?_
  refine GoC.iconst (-1) dX10_renew_28 (by decide) ?_
  refine GC.puti 3 9 rfl (by decide) (by decide) (rfl) fw_X10_95 (Or.inl rfl) (Or.inl rfl) dX10_renew_29 h (fun σ21 h => ?_)
  refine GC.aload_n 0 dX10_renew_32 rfl ?_
  refine GC.getr 10 2 rfl (by decide) (by decide) fw_X10_12 (Or.inl rfl) dX10_renew_33 h (fun v22 h => ?_)
  refine GC.aload_n 1 dX10_renew_36 rfl ?_
  obtain ⟨h0, h⟩ := ckd_some h
  obtain ⟨v23, σ24, hq, h⟩ := bd2_some h
  refine GC.callvI (rest := []) 12 rfl h0 rfl [G.rv v19] dX10_renew_37 kk_X10_98 km_Jx4a65c_add_9ea2d.1 km_Jx4a65c_add_9ea2d.2 (ktJx4a65c_add_9ea2d _ _ _ hq) rfl rfl (Nat.le_of_ble_eq_true rfl) (Nat.le_of_ble_eq_true rfl) trivial (Nat.le_of_ble_eq_true rfl) ?_
  refine GoC.pop dX10_renew_40 (rfl) ?_
  refine GoC.iconst 0 dX10_renew_41 (by decide) ?_
  refine GoC.istore_n [(0, G.rv x0), (1, G.rv v19), (2, .int 0)] dX10_renew_42 (by decide) rfl ?_
  refine GoC.sub [0, 2] rfl ?_
  exact ksX10_renew_43 _ _ _ _ h
set_option maxRecDepth 20000 in
theorem ktX10_renew {l : Launch} {G : Gt} {σ : Hp} (x0 : Nat) : ∀ Z, kX10_renew σ x0 = some Z → MtC l G yX10_renew cX10_renew 4 none 7 182 [G.rv x0] σ none Z := fun Z h => MtC.at (by decide +kernel) ⟨G.rv_cat _, trivial⟩ (Nat.le_of_ble_eq_true rfl) (ksX10_renew x0 h)
