/-! RULES, on. Mine. -/
theorem bf146_185 : am_fetch (am_mth 146) 185 = some (.iload_n 3, 1, [], [0, 6, 7, 8]) := by decide +kernel
theorem bf146_186 : am_fetch (am_mth 146) 186 = some (.iload 4, 2, [], [0, 3, 6, 7, 8]) := by decide +kernel
theorem bf146_188 : am_fetch (am_mth 146) 188 = some (.iadd, 1, [], [0, 3, 4, 6, 7, 8]) := by decide +kernel
theorem bf146_189 : am_fetch (am_mth 146) 189 = some (.iload 5, 2, [], [0, 3, 4, 6, 7, 8]) := by decide +kernel
theorem bf146_191 : am_fetch (am_mth 146) 191 = some (.isub, 1, [], [0, 3, 4, 5, 6, 7, 8]) := by decide +kernel
theorem bf146_192 : am_fetch (am_mth 146) 192 = some (.iastore, 1, [], [0, 3, 4, 5, 6, 7, 8]) := by decide +kernel
theorem bf146_193 : am_fetch (am_mth 146) 193 = some (.dup, 1, [], [0, 3, 4, 5, 6, 7, 8]) := by decide +kernel
theorem bf146_194 : am_fetch (am_mth 146) 194 = some (.bipush 9, 2, [], [0, 3, 4, 5, 6, 7, 8]) := by decide +kernel
theorem bf146_196 : am_fetch (am_mth 146) 196 = some (.aload_n 1, 1, [], [0, 3, 4, 5, 6, 7, 8]) := by decide +kernel
theorem bf146_197 : am_fetch (am_mth 146) 197 = some (.getfield 146, 3, [0, 10, 5, 1310], [0, 3, 4, 5, 6, 7, 8]) := by decide +kernel
theorem bf146_200 : am_fetch (am_mth 146) 200 = some (.iastore, 1, [], [0, 3, 4, 5, 6, 7, 8]) := by decide +kernel
theorem bf146_201 : am_fetch (am_mth 146) 201 = some (.dup, 1, [], [0, 3, 4, 5, 6, 7, 8]) := by decide +kernel
theorem bf146_202 : am_fetch (am_mth 146) 202 = some (.bipush 10, 2, [], [0, 3, 4, 5, 6, 7, 8]) := by decide +kernel
theorem bf146_204 : am_fetch (am_mth 146) 204 = some (.aload_n 1, 1, [], [0, 3, 4, 5, 6, 7, 8]) := by decide +kernel
theorem bf146_205 : am_fetch (am_mth 146) 205 = some (.getfield 140, 3, [0, 10, 6, 1311], [0, 3, 4, 5, 6, 7, 8]) := by decide +kernel
theorem bf146_208 : am_fetch (am_mth 146) 208 = some (.iastore, 1, [], [0, 3, 4, 5, 6, 7, 8]) := by decide +kernel
theorem bf146_209 : am_fetch (am_mth 146) 209 = some (.dup, 1, [], [0, 3, 4, 5, 6, 7, 8]) := by decide +kernel
theorem bf146_210 : am_fetch (am_mth 146) 210 = some (.bipush 11, 2, [], [0, 3, 4, 5, 6, 7, 8]) := by decide +kernel
theorem bf146_212 : am_fetch (am_mth 146) 212 = some (.aload_n 1, 1, [], [0, 3, 4, 5, 6, 7, 8]) := by decide +kernel
theorem bf146_213 : am_fetch (am_mth 146) 213 = some (.getfield 172, 3, [0, 10, 7, 1312], [0, 3, 4, 5, 6, 7, 8]) := by decide +kernel
theorem bf146_216 : am_fetch (am_mth 146) 216 = some (.iastore, 1, [], [0, 3, 4, 5, 6, 7, 8]) := by decide +kernel
theorem bf146_217 : am_fetch (am_mth 146) 217 = some (.dup, 1, [], [0, 3, 4, 5, 6, 7, 8]) := by decide +kernel
theorem bf146_218 : am_fetch (am_mth 146) 218 = some (.bipush 12, 2, [], [0, 3, 4, 5, 6, 7, 8]) := by decide +kernel
theorem bf146_220 : am_fetch (am_mth 146) 220 = some (.aload_n 1, 1, [], [0, 3, 4, 5, 6, 7, 8]) := by decide +kernel
theorem bf146_221 : am_fetch (am_mth 146) 221 = some (.getfield 169, 3, [0, 10, 8, 1313], [0, 1, 3, 4, 5, 6, 7, 8]) := by decide +kernel
theorem bf146_224 : am_fetch (am_mth 146) 224 = some (.iastore, 1, [], [0, 1, 3, 4, 5, 6, 7, 8]) := by decide +kernel
theorem bf146_225 : am_fetch (am_mth 146) 225 = some (.astore 6, 2, [], [0, 1, 3, 4, 5, 6, 7, 8]) := by decide +kernel
theorem bf146_227 : am_fetch (am_mth 146) 227 = some (.aload 6, 2, [], [0, 1, 3, 4, 5, 7, 8]) := by decide +kernel
theorem bf146_229 : am_fetch (am_mth 146) 229 = some (.iload_n 2, 1, [], [0, 1, 3, 4, 5, 6, 7, 8]) := by decide +kernel
theorem bf146_230 : am_fetch (am_mth 146) 230 = some (.iaload, 1, [], [0, 1, 2, 3, 4, 5, 6, 7, 8]) := by decide +kernel
theorem bf146_231 : am_fetch (am_mth 146) 231 = some (.ireturn, 1, [0], [0, 1, 2, 3, 4, 5, 6, 7, 8]) := by decide +kernel
theorem bk146_0 {w : am_Wd} {l0 : Nat} {l1 : Nat} {l2 : Int32} : am_run 146 0 [some (.ref l0), some (.ref l1), some (.int l2), none, none, none, none, none, none] [] w = am_run 146 11 [some (.ref l0), some (.ref l1), some (.int l2), some (.int (nI 0)), some (.int (nI 0)), some (.int (nI 0)), some (.int (nI 0)), none, none] [] w := by
  refine (bu (ls'' := [some (.ref l0), some (.ref l1), some (.int l2), none, none, none, none, none, none]) (st' := [.int (nI 0)]) bf146_0 bf146_1 rfl rfl).trans ?_
  refine (bu (ls'' := [some (.ref l0), some (.ref l1), some (.int l2), some (.int (nI 0)), none, none, none, none, none]) (st' := []) bf146_1 bf146_2 rfl rfl).trans ?_
  refine (bu (ls'' := [some (.ref l0), some (.ref l1), some (.int l2), some (.int (nI 0)), none, none, none, none, none]) (st' := [.int (nI 0)]) bf146_2 bf146_3 rfl rfl).trans ?_
  refine (bu (ls'' := [some (.ref l0), some (.ref l1), some (.int l2), some (.int (nI 0)), some (.int (nI 0)), none, none, none, none]) (st' := []) bf146_3 bf146_5 rfl rfl).trans ?_
  refine (bu (ls'' := [some (.ref l0), some (.ref l1), some (.int l2), some (.int (nI 0)), some (.int (nI 0)), none, none, none, none]) (st' := [.int (nI 0)]) bf146_5 bf146_6 rfl rfl).trans ?_
  refine (bu (ls'' := [some (.ref l0), some (.ref l1), some (.int l2), some (.int (nI 0)), some (.int (nI 0)), some (.int (nI 0)), none, none, none]) (st' := []) bf146_6 bf146_8 rfl rfl).trans ?_
  refine (bu (ls'' := [some (.ref l0), some (.ref l1), some (.int l2), some (.int (nI 0)), some (.int (nI 0)), some (.int (nI 0)), none, none, none]) (st' := [.int (nI 0)]) bf146_8 bf146_9 rfl rfl).trans ?_
  refine (bu (ls'' := [some (.ref l0), some (.ref l1), some (.int l2), some (.int (nI 0)), some (.int (nI 0)), some (.int (nI 0)), some (.int (nI 0)), none, none]) (st' := []) bf146_9 bf146_11 rfl rfl).trans ?_
  rfl
theorem bk146_11 {w : am_Wd} {l0 : Nat} {l1 : Nat} {l2 : Int32} {l3 : Int32} {l4 : Int32} {l5 : Int32} {l6 : Int32} : am_run 146 11 [some (.ref l0), some (.ref l1), some (.int l2), some (.int l3), some (.int l4), some (.int l5), some (.int l6), none, none] [] w = if (nI 36) ≤ l6 then am_run 146 118 [none, some (.ref l1), some (.int l2), some (.int l3), some (.int l4), some (.int l5), none, none, none] [] w else am_run 146 18 [some (.ref l0), some (.ref l1), some (.int l2), some (.int l3), some (.int l4), some (.int l5), some (.int l6), none, none] [] w := by
  refine (bu (ls'' := [some (.ref l0), some (.ref l1), some (.int l2), some (.int l3), some (.int l4), some (.int l5), some (.int l6), none, none]) (st' := [.int l6]) bf146_11 bf146_13 rfl rfl).trans ?_
  refine (bu (ls'' := [some (.ref l0), some (.ref l1), some (.int l2), some (.int l3), some (.int l4), some (.int l5), some (.int l6), none, none]) (st' := [.int (nI 36), .int l6]) bf146_13 bf146_15 rfl rfl).trans ?_
  exact bic bf146_15 rfl bf146_118 bf146_18 rfl rfl rfl
theorem bk146_118 {w : am_Wd} {l1 : Nat} {l2 : Int32} {l3 : Int32} {l4 : Int32} {l5 : Int32} : am_run 146 118 [none, some (.ref l1), some (.int l2), some (.int l3), some (.int l4), some (.int l5), none, none, none] [] w = (am_na w 0 (nI 13)).bind fun w' => am_run 146 122 [none, some (.ref l1), some (.int l2), some (.int l3), some (.int l4), some (.int l5), none, none, none] (.ref w.2.1 :: []) w' := by
  refine (bu (ls'' := [none, some (.ref l1), some (.int l2), some (.int l3), some (.int l4), some (.int l5), none, none, none]) (st' := [.int (nI 13)]) bf146_118 bf146_120 rfl rfl).trans ?_
  exact bh bf146_120 bf146_122 rfl (bge_na) rfl
theorem bk146_18 {w : am_Wd} {l0 : Nat} {l1 : Nat} {l2 : Int32} {l3 : Int32} {l4 : Int32} {l5 : Int32} {l6 : Int32} : am_run 146 18 [some (.ref l0), some (.ref l1), some (.int l2), some (.int l3), some (.int l4), some (.int l5), some (.int l6), none, none] [] w = am_run 146 21 [some (.ref l0), some (.ref l1), some (.int l2), some (.int l3), some (.int l4), some (.int l5), some (.int l6), some (.int (nI 0)), none] [] w := by
  refine (bu (ls'' := [some (.ref l0), some (.ref l1), some (.int l2), some (.int l3), some (.int l4), some (.int l5), some (.int l6), none, none]) (st' := [.int (nI 0)]) bf146_18 bf146_19 rfl rfl).trans ?_
  refine (bu (ls'' := [some (.ref l0), some (.ref l1), some (.int l2), some (.int l3), some (.int l4), some (.int l5), some (.int l6), some (.int (nI 0)), none]) (st' := []) bf146_19 bf146_21 rfl rfl).trans ?_
  rfl
theorem bk146_122 {w : am_Wd} {l1 : Nat} {l2 : Int32} {l3 : Int32} {l4 : Int32} {l5 : Int32} {s0 : Nat} : am_run 146 122 [none, some (.ref l1), some (.int l2), some (.int l3), some (.int l4), some (.int l5), none, none, none] [.ref s0] w = (am_gf w l1 10 0).bind fun v => am_run 146 128 [none, some (.ref l1), some (.int l2), some (.int l3), some (.int l4), some (.int l5), none, none, none] (v :: [.int (nI 0), .ref s0, .ref s0]) w := by
  refine (bu (ls'' := [none, some (.ref l1), some (.int l2), some (.int l3), some (.int l4), some (.int l5), none, none, none]) (st' := [.ref s0, .ref s0]) bf146_122 bf146_123 rfl rfl).trans ?_
  refine (bu (ls'' := [none, some (.ref l1), some (.int l2), some (.int l3), some (.int l4), some (.int l5), none, none, none]) (st' := [.int (nI 0), .ref s0, .ref s0]) bf146_123 bf146_124 rfl rfl).trans ?_
  refine (bu (ls'' := [none, some (.ref l1), some (.int l2), some (.int l3), some (.int l4), some (.int l5), none, none, none]) (st' := [.ref l1, .int (nI 0), .ref s0, .ref s0]) bf146_124 bf146_125 rfl rfl).trans ?_
  exact bh bf146_125 bf146_128 rfl (fun _ _ => am_ge_rf w) rfl
theorem bk146_21 {w : am_Wd} {l0 : Nat} {l1 : Nat} {l2 : Int32} {l3 : Int32} {l4 : Int32} {l5 : Int32} {l6 : Int32} {l7 : Int32} : am_run 146 21 [some (.ref l0), some (.ref l1), some (.int l2), some (.int l3), some (.int l4), some (.int l5), some (.int l6), some (.int l7), none] [] w = if (nI 2) ≤ l7 then am_run 146 112 [some (.ref l0), some (.ref l1), some (.int l2), some (.int l3), some (.int l4), some (.int l5), some (.int l6), none, none] [] w else am_run 146 27 [some (.ref l0), some (.ref l1), some (.int l2), some (.int l3), some (.int l4), some (.int l5), some (.int l6), some (.int l7), none] [] w := by
  refine (bu (ls'' := [some (.ref l0), some (.ref l1), some (.int l2), some (.int l3), some (.int l4), some (.int l5), some (.int l6), some (.int l7), none]) (st' := [.int l7]) bf146_21 bf146_23 rfl rfl).trans ?_
  refine (bu (ls'' := [some (.ref l0), some (.ref l1), some (.int l2), some (.int l3), some (.int l4), some (.int l5), some (.int l6), some (.int l7), none]) (st' := [.int (nI 2), .int l7]) bf146_23 bf146_24 rfl rfl).trans ?_
  exact bic bf146_24 rfl bf146_112 bf146_27 rfl rfl rfl
theorem bk146_128 {w : am_Wd} {l1 : Nat} {l2 : Int32} {l3 : Int32} {l4 : Int32} {l5 : Int32} {s0 : Int32} {s1 : Int32} {s2 : Nat} {s3 : Nat} : am_run 146 128 [none, some (.ref l1), some (.int l2), some (.int l3), some (.int l4), some (.int l5), none, none, none] [.int s0, .int s1, .ref s2, .ref s3] w = (am_wi 0 w s2 s1 s0).bind fun w' => am_run 146 129 [none, some (.ref l1), some (.int l2), some (.int l3), some (.int l4), some (.int l5), none, none, none] [.ref s3] w' := by
  exact bh bf146_128 bf146_129 rfl (bge_wi) rfl
theorem bk146_112 {w : am_Wd} {l0 : Nat} {l1 : Nat} {l2 : Int32} {l3 : Int32} {l4 : Int32} {l5 : Int32} {l6 : Int32} : am_run 146 112 [some (.ref l0), some (.ref l1), some (.int l2), some (.int l3), some (.int l4), some (.int l5), some (.int l6), none, none] [] w = am_run 146 11 [some (.ref l0), some (.ref l1), some (.int l2), some (.int l3), some (.int l4), some (.int l5), some (.int (l6 + (nI 1))), none, none] [] w := by
  refine (bu (ls'' := [some (.ref l0), some (.ref l1), some (.int l2), some (.int l3), some (.int l4), some (.int l5), some (.int (l6 + (nI 1))), none, none]) (st' := []) bf146_112 bf146_115 rfl rfl).trans ?_
  refine (bu (ls'' := [some (.ref l0), some (.ref l1), some (.int l2), some (.int l3), some (.int l4), some (.int l5), some (.int (l6 + (nI 1))), none, none]) (st' := []) bf146_115 bf146_11 rfl rfl).trans ?_
  rfl
theorem bk146_27 {w : am_Wd} {l0 : Nat} {l1 : Nat} {l2 : Int32} {l3 : Int32} {l4 : Int32} {l5 : Int32} {l6 : Int32} {l7 : Int32} : am_run 146 27 [some (.ref l0), some (.ref l1), some (.int l2), some (.int l3), some (.int l4), some (.int l5), some (.int l6), some (.int l7), none] [] w = (am_gf w l1 10 4).bind fun v => am_run 146 31 [some (.ref l0), some (.ref l1), some (.int l2), some (.int l3), some (.int l4), some (.int l5), some (.int l6), some (.int l7), none] (v :: []) w := by
  refine (bu (ls'' := [some (.ref l0), some (.ref l1), some (.int l2), some (.int l3), some (.int l4), some (.int l5), some (.int l6), some (.int l7), none]) (st' := [.ref l1]) bf146_27 bf146_28 rfl rfl).trans ?_
  exact bh bf146_28 bf146_31 rfl (fun _ _ => am_ge_rf w) rfl
theorem bk146_129 {w : am_Wd} {l1 : Nat} {l2 : Int32} {l3 : Int32} {l4 : Int32} {l5 : Int32} {s0 : Nat} : am_run 146 129 [none, some (.ref l1), some (.int l2), some (.int l3), some (.int l4), some (.int l5), none, none, none] [.ref s0] w = (am_gf w l1 10 1).bind fun v => am_run 146 135 [none, some (.ref l1), some (.int l2), some (.int l3), some (.int l4), some (.int l5), none, none, none] (v :: [.int (nI 1), .ref s0, .ref s0]) w := by
  refine (bu (ls'' := [none, some (.ref l1), some (.int l2), some (.int l3), some (.int l4), some (.int l5), none, none, none]) (st' := [.ref s0, .ref s0]) bf146_129 bf146_130 rfl rfl).trans ?_
  refine (bu (ls'' := [none, some (.ref l1), some (.int l2), some (.int l3), some (.int l4), some (.int l5), none, none, none]) (st' := [.int (nI 1), .ref s0, .ref s0]) bf146_130 bf146_131 rfl rfl).trans ?_
  refine (bu (ls'' := [none, some (.ref l1), some (.int l2), some (.int l3), some (.int l4), some (.int l5), none, none, none]) (st' := [.ref l1, .int (nI 1), .ref s0, .ref s0]) bf146_131 bf146_132 rfl rfl).trans ?_
  exact bh bf146_132 bf146_135 rfl (fun _ _ => am_ge_rf w) rfl
theorem bk146_31 {w : am_Wd} {l0 : Nat} {l1 : Nat} {l2 : Int32} {l3 : Int32} {l4 : Int32} {l5 : Int32} {l6 : Int32} {l7 : Int32} {s0 : Nat} : am_run 146 31 [some (.ref l0), some (.ref l1), some (.int l2), some (.int l3), some (.int l4), some (.int l5), some (.int l6), some (.int l7), none] [.ref s0] w = (am_rq w s0 l6).bind fun v => am_run 146 34 [some (.ref l0), some (.ref l1), some (.int l2), some (.int l3), some (.int l4), some (.int l5), some (.int l6), some (.int l7), none] (v :: []) w := by
  refine (bu (ls'' := [some (.ref l0), some (.ref l1), some (.int l2), some (.int l3), some (.int l4), some (.int l5), some (.int l6), some (.int l7), none]) (st' := [.int l6, .ref s0]) bf146_31 bf146_33 rfl rfl).trans ?_
  exact bh bf146_33 bf146_34 rfl (fun _ _ => am_ge_rf w) rfl
theorem bk146_135 {w : am_Wd} {l1 : Nat} {l2 : Int32} {l3 : Int32} {l4 : Int32} {l5 : Int32} {s0 : Int32} {s1 : Int32} {s2 : Nat} {s3 : Nat} : am_run 146 135 [none, some (.ref l1), some (.int l2), some (.int l3), some (.int l4), some (.int l5), none, none, none] [.int s0, .int s1, .ref s2, .ref s3] w = (am_wi 0 w s2 s1 s0).bind fun w' => am_run 146 136 [none, some (.ref l1), some (.int l2), some (.int l3), some (.int l4), some (.int l5), none, none, none] [.ref s3] w' := by
  exact bh bf146_135 bf146_136 rfl (bge_wi) rfl
theorem bk146_34 {w : am_Wd} {l0 : Nat} {l1 : Nat} {l2 : Int32} {l3 : Int32} {l4 : Int32} {l5 : Int32} {l6 : Int32} {l7 : Int32} {s0 : Nat} : am_run 146 34 [some (.ref l0), some (.ref l1), some (.int l2), some (.int l3), some (.int l4), some (.int l5), some (.int l6), some (.int l7), none] [.ref s0] w = (am_ri 0 w s0 l7).bind fun v => am_run 146 37 [some (.ref l0), some (.ref l1), some (.int l2), some (.int l3), some (.int l4), some (.int l5), some (.int l6), some (.int l7), none] (.int v :: []) w := by
  refine (bu (ls'' := [some (.ref l0), some (.ref l1), some (.int l2), some (.int l3), some (.int l4), some (.int l5), some (.int l6), some (.int l7), none]) (st' := [.int l7, .ref s0]) bf146_34 bf146_36 rfl rfl).trans ?_
  exact bh bf146_36 bf146_37 rfl (fun _ _ => am_ge_rf w) rfl
theorem bk146_136 {w : am_Wd} {l1 : Nat} {l2 : Int32} {l3 : Int32} {l4 : Int32} {l5 : Int32} {s0 : Nat} : am_run 146 136 [none, some (.ref l1), some (.int l2), some (.int l3), some (.int l4), some (.int l5), none, none, none] [.ref s0] w = (am_gf w l1 10 2).bind fun v => am_run 146 142 [none, some (.ref l1), some (.int l2), some (.int l3), some (.int l4), some (.int l5), none, none, none] (v :: [.int (nI 2), .ref s0, .ref s0]) w := by
  refine (bu (ls'' := [none, some (.ref l1), some (.int l2), some (.int l3), some (.int l4), some (.int l5), none, none, none]) (st' := [.ref s0, .ref s0]) bf146_136 bf146_137 rfl rfl).trans ?_
  refine (bu (ls'' := [none, some (.ref l1), some (.int l2), some (.int l3), some (.int l4), some (.int l5), none, none, none]) (st' := [.int (nI 2), .ref s0, .ref s0]) bf146_137 bf146_138 rfl rfl).trans ?_
  refine (bu (ls'' := [none, some (.ref l1), some (.int l2), some (.int l3), some (.int l4), some (.int l5), none, none, none]) (st' := [.ref l1, .int (nI 2), .ref s0, .ref s0]) bf146_138 bf146_139 rfl rfl).trans ?_
  exact bh bf146_139 bf146_142 rfl (fun _ _ => am_ge_rf w) rfl
theorem bk146_37 {w : am_Wd} {l0 : Nat} {l1 : Nat} {l2 : Int32} {l3 : Int32} {l4 : Int32} {l5 : Int32} {l6 : Int32} {l7 : Int32} {s0 : Int32} : am_run 146 37 [some (.ref l0), some (.ref l1), some (.int l2), some (.int l3), some (.int l4), some (.int l5), some (.int l6), some (.int l7), none] [.int s0] w = if ¬ s0 = (nI 1) then am_run 146 50 [some (.ref l0), some (.ref l1), some (.int l2), none, some (.int l4), some (.int l5), some (.int l6), some (.int l7), some (.int s0)] [.int l3] w else am_run 146 46 [some (.ref l0), some (.ref l1), some (.int l2), none, some (.int l4), some (.int l5), some (.int l6), some (.int l7), some (.int s0)] [.int l3] w := by
  refine (bu (ls'' := [some (.ref l0), some (.ref l1), some (.int l2), some (.int l3), some (.int l4), some (.int l5), some (.int l6), some (.int l7), some (.int s0)]) (st' := []) bf146_37 bf146_39 rfl rfl).trans ?_
  refine (bu (ls'' := [some (.ref l0), some (.ref l1), some (.int l2), none, some (.int l4), some (.int l5), some (.int l6), some (.int l7), some (.int s0)]) (st' := [.int l3]) bf146_39 bf146_40 rfl rfl).trans ?_
  refine (bu (ls'' := [some (.ref l0), some (.ref l1), some (.int l2), none, some (.int l4), some (.int l5), some (.int l6), some (.int l7), some (.int s0)]) (st' := [.int s0, .int l3]) bf146_40 bf146_42 rfl rfl).trans ?_
  refine (bu (ls'' := [some (.ref l0), some (.ref l1), some (.int l2), none, some (.int l4), some (.int l5), some (.int l6), some (.int l7), some (.int s0)]) (st' := [.int (nI 1), .int s0, .int l3]) bf146_42 bf146_43 rfl rfl).trans ?_
  exact bic bf146_43 rfl bf146_50 bf146_46 rfl rfl rfl
theorem bk146_142 {w : am_Wd} {l1 : Nat} {l2 : Int32} {l3 : Int32} {l4 : Int32} {l5 : Int32} {s0 : Int32} {s1 : Int32} {s2 : Nat} {s3 : Nat} : am_run 146 142 [none, some (.ref l1), some (.int l2), some (.int l3), some (.int l4), some (.int l5), none, none, none] [.int s0, .int s1, .ref s2, .ref s3] w = (am_wi 0 w s2 s1 s0).bind fun w' => am_run 146 143 [none, some (.ref l1), some (.int l2), some (.int l3), some (.int l4), some (.int l5), none, none, none] [.ref s3] w' := by
  exact bh bf146_142 bf146_143 rfl (bge_wi) rfl
theorem bk146_50 {w : am_Wd} {l0 : Nat} {l1 : Nat} {l2 : Int32} {l4 : Int32} {l5 : Int32} {l6 : Int32} {l7 : Int32} {l8 : Int32} {s0 : Int32} : am_run 146 50 [some (.ref l0), some (.ref l1), some (.int l2), none, some (.int l4), some (.int l5), some (.int l6), some (.int l7), some (.int l8)] [.int s0] w = am_run 146 51 [some (.ref l0), some (.ref l1), some (.int l2), none, some (.int l4), some (.int l5), some (.int l6), some (.int l7), some (.int l8)] [.int (nI 0), .int s0] w := by
  refine (bu (ls'' := [some (.ref l0), some (.ref l1), some (.int l2), none, some (.int l4), some (.int l5), some (.int l6), some (.int l7), some (.int l8)]) (st' := [.int (nI 0), .int s0]) bf146_50 bf146_51 rfl rfl).trans ?_
  rfl
theorem bk146_46 {w : am_Wd} {l0 : Nat} {l1 : Nat} {l2 : Int32} {l4 : Int32} {l5 : Int32} {l6 : Int32} {l7 : Int32} {l8 : Int32} {s0 : Int32} : am_run 146 46 [some (.ref l0), some (.ref l1), some (.int l2), none, some (.int l4), some (.int l5), some (.int l6), some (.int l7), some (.int l8)] [.int s0] w = am_run 146 51 [some (.ref l0), some (.ref l1), some (.int l2), none, some (.int l4), some (.int l5), some (.int l6), some (.int l7), some (.int l8)] [.int (nI 1), .int s0] w := by
  refine (bu (ls'' := [some (.ref l0), some (.ref l1), some (.int l2), none, some (.int l4), some (.int l5), some (.int l6), some (.int l7), some (.int l8)]) (st' := [.int (nI 1), .int s0]) bf146_46 bf146_47 rfl rfl).trans ?_
  refine (bu (ls'' := [some (.ref l0), some (.ref l1), some (.int l2), none, some (.int l4), some (.int l5), some (.int l6), some (.int l7), some (.int l8)]) (st' := [.int (nI 1), .int s0]) bf146_47 bf146_51 rfl rfl).trans ?_
  rfl
theorem bk146_143 {w : am_Wd} {l1 : Nat} {l2 : Int32} {l3 : Int32} {l4 : Int32} {l5 : Int32} {s0 : Nat} : am_run 146 143 [none, some (.ref l1), some (.int l2), some (.int l3), some (.int l4), some (.int l5), none, none, none] [.ref s0] w = (am_kf w l1 10).bind fun _ => (am_x 37 [.ref l1] w).bind fun r => bct r fun v w' => am_run 146 149 [none, some (.ref l1), some (.int l2), some (.int l3), some (.int l4), some (.int l5), none, none, none] (v.toList ++ [.int (nI 3), .ref s0, .ref s0]) w' := by
  refine (bu (ls'' := [none, some (.ref l1), some (.int l2), some (.int l3), some (.int l4), some (.int l5), none, none, none]) (st' := [.ref s0, .ref s0]) bf146_143 bf146_144 rfl rfl).trans ?_
  refine (bu (ls'' := [none, some (.ref l1), some (.int l2), some (.int l3), some (.int l4), some (.int l5), none, none, none]) (st' := [.int (nI 3), .ref s0, .ref s0]) bf146_144 bf146_145 rfl rfl).trans ?_
  refine (bu (ls'' := [none, some (.ref l1), some (.int l2), some (.int l3), some (.int l4), some (.int l5), none, none, none]) (st' := [.ref l1, .int (nI 3), .ref s0, .ref s0]) bf146_145 bf146_146 rfl rfl).trans ?_
  exact bkV bf146_146 bf146_149 rfl (by decide +kernel) (Nat.le_of_ble_eq_true rfl) rfl (bhd rfl)
theorem bk146_51 {w : am_Wd} {l0 : Nat} {l1 : Nat} {l2 : Int32} {l4 : Int32} {l5 : Int32} {l6 : Int32} {l7 : Int32} {l8 : Int32} {s0 : Int32} {s1 : Int32} : am_run 146 51 [some (.ref l0), some (.ref l1), some (.int l2), none, some (.int l4), some (.int l5), some (.int l6), some (.int l7), some (.int l8)] [.int s0, .int s1] w = if ¬ l8 = (nI 2) then am_run 146 65 [some (.ref l0), some (.ref l1), some (.int l2), some (.int (s1 + s0)), none, some (.int l5), some (.int l6), some (.int l7), some (.int l8)] [.int l4] w else am_run 146 61 [some (.ref l0), some (.ref l1), some (.int l2), some (.int (s1 + s0)), none, some (.int l5), some (.int l6), some (.int l7), some (.int l8)] [.int l4] w := by
  refine (bu (ls'' := [some (.ref l0), some (.ref l1), some (.int l2), none, some (.int l4), some (.int l5), some (.int l6), some (.int l7), some (.int l8)]) (st' := [.int (s1 + s0)]) bf146_51 bf146_52 rfl rfl).trans ?_
  refine (bu (ls'' := [some (.ref l0), some (.ref l1), some (.int l2), some (.int (s1 + s0)), some (.int l4), some (.int l5), some (.int l6), some (.int l7), some (.int l8)]) (st' := []) bf146_52 bf146_53 rfl rfl).trans ?_
  refine (bu (ls'' := [some (.ref l0), some (.ref l1), some (.int l2), some (.int (s1 + s0)), none, some (.int l5), some (.int l6), some (.int l7), some (.int l8)]) (st' := [.int l4]) bf146_53 bf146_55 rfl rfl).trans ?_
  refine (bu (ls'' := [some (.ref l0), some (.ref l1), some (.int l2), some (.int (s1 + s0)), none, some (.int l5), some (.int l6), some (.int l7), some (.int l8)]) (st' := [.int l8, .int l4]) bf146_55 bf146_57 rfl rfl).trans ?_
  refine (bu (ls'' := [some (.ref l0), some (.ref l1), some (.int l2), some (.int (s1 + s0)), none, some (.int l5), some (.int l6), some (.int l7), some (.int l8)]) (st' := [.int (nI 2), .int l8, .int l4]) bf146_57 bf146_58 rfl rfl).trans ?_
  exact bic bf146_58 rfl bf146_65 bf146_61 rfl rfl rfl
theorem bk146_149 {w : am_Wd} {l1 : Nat} {l2 : Int32} {l3 : Int32} {l4 : Int32} {l5 : Int32} {s0 : Int32} {s1 : Int32} {s2 : Nat} {s3 : Nat} : am_run 146 149 [none, some (.ref l1), some (.int l2), some (.int l3), some (.int l4), some (.int l5), none, none, none] [.int s0, .int s1, .ref s2, .ref s3] w = (am_wi 0 w s2 s1 s0).bind fun w' => am_run 146 150 [none, some (.ref l1), some (.int l2), some (.int l3), some (.int l4), some (.int l5), none, none, none] [.ref s3] w' := by
  exact bh bf146_149 bf146_150 rfl (bge_wi) rfl
theorem bk146_65 {w : am_Wd} {l0 : Nat} {l1 : Nat} {l2 : Int32} {l3 : Int32} {l5 : Int32} {l6 : Int32} {l7 : Int32} {l8 : Int32} {s0 : Int32} : am_run 146 65 [some (.ref l0), some (.ref l1), some (.int l2), some (.int l3), none, some (.int l5), some (.int l6), some (.int l7), some (.int l8)] [.int s0] w = am_run 146 66 [some (.ref l0), some (.ref l1), some (.int l2), some (.int l3), none, some (.int l5), some (.int l6), some (.int l7), some (.int l8)] [.int (nI 0), .int s0] w := by
  refine (bu (ls'' := [some (.ref l0), some (.ref l1), some (.int l2), some (.int l3), none, some (.int l5), some (.int l6), some (.int l7), some (.int l8)]) (st' := [.int (nI 0), .int s0]) bf146_65 bf146_66 rfl rfl).trans ?_
  rfl
theorem bk146_61 {w : am_Wd} {l0 : Nat} {l1 : Nat} {l2 : Int32} {l3 : Int32} {l5 : Int32} {l6 : Int32} {l7 : Int32} {l8 : Int32} {s0 : Int32} : am_run 146 61 [some (.ref l0), some (.ref l1), some (.int l2), some (.int l3), none, some (.int l5), some (.int l6), some (.int l7), some (.int l8)] [.int s0] w = am_run 146 66 [some (.ref l0), some (.ref l1), some (.int l2), some (.int l3), none, some (.int l5), some (.int l6), some (.int l7), some (.int l8)] [.int (nI 1), .int s0] w := by
  refine (bu (ls'' := [some (.ref l0), some (.ref l1), some (.int l2), some (.int l3), none, some (.int l5), some (.int l6), some (.int l7), some (.int l8)]) (st' := [.int (nI 1), .int s0]) bf146_61 bf146_62 rfl rfl).trans ?_
  refine (bu (ls'' := [some (.ref l0), some (.ref l1), some (.int l2), some (.int l3), none, some (.int l5), some (.int l6), some (.int l7), some (.int l8)]) (st' := [.int (nI 1), .int s0]) bf146_62 bf146_66 rfl rfl).trans ?_
  rfl
theorem bk146_150 {w : am_Wd} {l1 : Nat} {l2 : Int32} {l3 : Int32} {l4 : Int32} {l5 : Int32} {s0 : Nat} : am_run 146 150 [none, some (.ref l1), some (.int l2), some (.int l3), some (.int l4), some (.int l5), none, none, none] [.ref s0] w = (am_kf w l1 10).bind fun _ => (am_x 37 [.ref l1] w).bind fun r => bct r fun v w' => am_run 146 156 [none, some (.ref l1), some (.int l2), some (.int l3), some (.int l4), some (.int l5), none, none, none] (v.toList ++ [.int (nI 4), .ref s0, .ref s0]) w' := by
  refine (bu (ls'' := [none, some (.ref l1), some (.int l2), some (.int l3), some (.int l4), some (.int l5), none, none, none]) (st' := [.ref s0, .ref s0]) bf146_150 bf146_151 rfl rfl).trans ?_
  refine (bu (ls'' := [none, some (.ref l1), some (.int l2), some (.int l3), some (.int l4), some (.int l5), none, none, none]) (st' := [.int (nI 4), .ref s0, .ref s0]) bf146_151 bf146_152 rfl rfl).trans ?_
  refine (bu (ls'' := [none, some (.ref l1), some (.int l2), some (.int l3), some (.int l4), some (.int l5), none, none, none]) (st' := [.ref l1, .int (nI 4), .ref s0, .ref s0]) bf146_152 bf146_153 rfl rfl).trans ?_
  exact bkV bf146_153 bf146_156 rfl (by decide +kernel) (Nat.le_of_ble_eq_true rfl) rfl (bhd rfl)
theorem bk146_66 {w : am_Wd} {l0 : Nat} {l1 : Nat} {l2 : Int32} {l3 : Int32} {l5 : Int32} {l6 : Int32} {l7 : Int32} {l8 : Int32} {s0 : Int32} {s1 : Int32} : am_run 146 66 [some (.ref l0), some (.ref l1), some (.int l2), some (.int l3), none, some (.int l5), some (.int l6), some (.int l7), some (.int l8)] [.int s0, .int s1] w = if l8 = nI 0 then am_run 146 102 [some (.ref l0), some (.ref l1), some (.int l2), some (.int l3), some (.int (s1 + s0)), none, some (.int l6), some (.int l7), none] [.int l5] w else am_run 146 76 [some (.ref l0), some (.ref l1), some (.int l2), some (.int l3), some (.int (s1 + s0)), none, some (.int l6), some (.int l7), some (.int l8)] [.int l5] w := by
  refine (bu (ls'' := [some (.ref l0), some (.ref l1), some (.int l2), some (.int l3), none, some (.int l5), some (.int l6), some (.int l7), some (.int l8)]) (st' := [.int (s1 + s0)]) bf146_66 bf146_67 rfl rfl).trans ?_
  refine (bu (ls'' := [some (.ref l0), some (.ref l1), some (.int l2), some (.int l3), some (.int (s1 + s0)), some (.int l5), some (.int l6), some (.int l7), some (.int l8)]) (st' := []) bf146_67 bf146_69 rfl rfl).trans ?_
  refine (bu (ls'' := [some (.ref l0), some (.ref l1), some (.int l2), some (.int l3), some (.int (s1 + s0)), none, some (.int l6), some (.int l7), some (.int l8)]) (st' := [.int l5]) bf146_69 bf146_71 rfl rfl).trans ?_
  refine (bu (ls'' := [some (.ref l0), some (.ref l1), some (.int l2), some (.int l3), some (.int (s1 + s0)), none, some (.int l6), some (.int l7), some (.int l8)]) (st' := [.int l8, .int l5]) bf146_71 bf146_73 rfl rfl).trans ?_
  exact bifc bf146_73 rfl bf146_102 bf146_76 rfl rfl rfl
theorem bk146_156 {w : am_Wd} {l1 : Nat} {l2 : Int32} {l3 : Int32} {l4 : Int32} {l5 : Int32} {s0 : Int32} {s1 : Int32} {s2 : Nat} {s3 : Nat} : am_run 146 156 [none, some (.ref l1), some (.int l2), some (.int l3), some (.int l4), some (.int l5), none, none, none] [.int s0, .int s1, .ref s2, .ref s3] w = if ¬ s0 = (nI 1) then am_run 146 164 [none, some (.ref l1), some (.int l2), some (.int l3), some (.int l4), some (.int l5), none, none, none] [.int s1, .ref s2, .ref s3] w else am_run 146 160 [none, some (.ref l1), some (.int l2), some (.int l3), some (.int l4), some (.int l5), none, none, none] [.int s1, .ref s2, .ref s3] w := by
  refine (bu (ls'' := [none, some (.ref l1), some (.int l2), some (.int l3), some (.int l4), some (.int l5), none, none, none]) (st' := [.int (nI 1), .int s0, .int s1, .ref s2, .ref s3]) bf146_156 bf146_157 rfl rfl).trans ?_
  exact bic bf146_157 rfl bf146_164 bf146_160 rfl rfl rfl
theorem bk146_102 {w : am_Wd} {l0 : Nat} {l1 : Nat} {l2 : Int32} {l3 : Int32} {l4 : Int32} {l6 : Int32} {l7 : Int32} {s0 : Int32} : am_run 146 102 [some (.ref l0), some (.ref l1), some (.int l2), some (.int l3), some (.int l4), none, some (.int l6), some (.int l7), none] [.int s0] w = am_run 146 103 [some (.ref l0), some (.ref l1), some (.int l2), some (.int l3), some (.int l4), none, some (.int l6), some (.int l7), none] [.int (nI 0), .int s0] w := by
  refine (bu (ls'' := [some (.ref l0), some (.ref l1), some (.int l2), some (.int l3), some (.int l4), none, some (.int l6), some (.int l7), none]) (st' := [.int (nI 0), .int s0]) bf146_102 bf146_103 rfl rfl).trans ?_
  rfl
theorem bk146_76 {w : am_Wd} {l0 : Nat} {l1 : Nat} {l2 : Int32} {l3 : Int32} {l4 : Int32} {l6 : Int32} {l7 : Int32} {l8 : Int32} {s0 : Int32} : am_run 146 76 [some (.ref l0), some (.ref l1), some (.int l2), some (.int l3), some (.int l4), none, some (.int l6), some (.int l7), some (.int l8)] [.int s0] w = if ¬ l8 = (nI 2) then am_run 146 86 [some (.ref l0), some (.ref l1), some (.int l2), some (.int l3), some (.int l4), none, some (.int l6), some (.int l7), none] [.int s0] w else am_run 146 82 [some (.ref l0), some (.ref l1), some (.int l2), some (.int l3), some (.int l4), none, some (.int l6), some (.int l7), none] [.int s0] w := by
  refine (bu (ls'' := [some (.ref l0), some (.ref l1), some (.int l2), some (.int l3), some (.int l4), none, some (.int l6), some (.int l7), none]) (st' := [.int l8, .int s0]) bf146_76 bf146_78 rfl rfl).trans ?_
  refine (bu (ls'' := [some (.ref l0), some (.ref l1), some (.int l2), some (.int l3), some (.int l4), none, some (.int l6), some (.int l7), none]) (st' := [.int (nI 2), .int l8, .int s0]) bf146_78 bf146_79 rfl rfl).trans ?_
  exact bic bf146_79 rfl bf146_86 bf146_82 rfl rfl rfl
theorem bk146_164 {w : am_Wd} {l1 : Nat} {l2 : Int32} {l3 : Int32} {l4 : Int32} {l5 : Int32} {s0 : Int32} {s1 : Nat} {s2 : Nat} : am_run 146 164 [none, some (.ref l1), some (.int l2), some (.int l3), some (.int l4), some (.int l5), none, none, none] [.int s0, .ref s1, .ref s2] w = am_run 146 165 [none, some (.ref l1), some (.int l2), some (.int l3), some (.int l4), some (.int l5), none, none, none] [.int (nI 0), .int s0, .ref s1, .ref s2] w := by
  refine (bu (ls'' := [none, some (.ref l1), some (.int l2), some (.int l3), some (.int l4), some (.int l5), none, none, none]) (st' := [.int (nI 0), .int s0, .ref s1, .ref s2]) bf146_164 bf146_165 rfl rfl).trans ?_
  rfl
theorem bk146_160 {w : am_Wd} {l1 : Nat} {l2 : Int32} {l3 : Int32} {l4 : Int32} {l5 : Int32} {s0 : Int32} {s1 : Nat} {s2 : Nat} : am_run 146 160 [none, some (.ref l1), some (.int l2), some (.int l3), some (.int l4), some (.int l5), none, none, none] [.int s0, .ref s1, .ref s2] w = am_run 146 165 [none, some (.ref l1), some (.int l2), some (.int l3), some (.int l4), some (.int l5), none, none, none] [.int (nI 1), .int s0, .ref s1, .ref s2] w := by
  refine (bu (ls'' := [none, some (.ref l1), some (.int l2), some (.int l3), some (.int l4), some (.int l5), none, none, none]) (st' := [.int (nI 1), .int s0, .ref s1, .ref s2]) bf146_160 bf146_161 rfl rfl).trans ?_
  refine (bu (ls'' := [none, some (.ref l1), some (.int l2), some (.int l3), some (.int l4), some (.int l5), none, none, none]) (st' := [.int (nI 1), .int s0, .ref s1, .ref s2]) bf146_161 bf146_165 rfl rfl).trans ?_
  rfl
theorem bk146_103 {w : am_Wd} {l0 : Nat} {l1 : Nat} {l2 : Int32} {l3 : Int32} {l4 : Int32} {l6 : Int32} {l7 : Int32} {s0 : Int32} {s1 : Int32} : am_run 146 103 [some (.ref l0), some (.ref l1), some (.int l2), some (.int l3), some (.int l4), none, some (.int l6), some (.int l7), none] [.int s0, .int s1] w = am_run 146 21 [some (.ref l0), some (.ref l1), some (.int l2), some (.int l3), some (.int l4), some (.int (s1 + s0)), some (.int l6), some (.int (l7 + (nI 1))), none] [] w := by
  refine (bu (ls'' := [some (.ref l0), some (.ref l1), some (.int l2), some (.int l3), some (.int l4), none, some (.int l6), some (.int l7), none]) (st' := [.int (s1 + s0)]) bf146_103 bf146_104 rfl rfl).trans ?_
  refine (bu (ls'' := [some (.ref l0), some (.ref l1), some (.int l2), some (.int l3), some (.int l4), some (.int (s1 + s0)), some (.int l6), some (.int l7), none]) (st' := []) bf146_104 bf146_106 rfl rfl).trans ?_
  refine (bu (ls'' := [some (.ref l0), some (.ref l1), some (.int l2), some (.int l3), some (.int l4), some (.int (s1 + s0)), some (.int l6), some (.int (l7 + (nI 1))), none]) (st' := []) bf146_106 bf146_109 rfl rfl).trans ?_
  refine (bu (ls'' := [some (.ref l0), some (.ref l1), some (.int l2), some (.int l3), some (.int l4), some (.int (s1 + s0)), some (.int l6), some (.int (l7 + (nI 1))), none]) (st' := []) bf146_109 bf146_21 rfl rfl).trans ?_
  rfl
theorem bk146_86 {w : am_Wd} {l0 : Nat} {l1 : Nat} {l2 : Int32} {l3 : Int32} {l4 : Int32} {l6 : Int32} {l7 : Int32} {s0 : Int32} : am_run 146 86 [some (.ref l0), some (.ref l1), some (.int l2), some (.int l3), some (.int l4), none, some (.int l6), some (.int l7), none] [.int s0] w = am_run 146 87 [some (.ref l0), some (.ref l1), some (.int l2), some (.int l3), some (.int l4), none, some (.int l6), some (.int l7), none] [.int (nI 0), .int s0] w := by
  refine (bu (ls'' := [some (.ref l0), some (.ref l1), some (.int l2), some (.int l3), some (.int l4), none, some (.int l6), some (.int l7), none]) (st' := [.int (nI 0), .int s0]) bf146_86 bf146_87 rfl rfl).trans ?_
  rfl
theorem bk146_82 {w : am_Wd} {l0 : Nat} {l1 : Nat} {l2 : Int32} {l3 : Int32} {l4 : Int32} {l6 : Int32} {l7 : Int32} {s0 : Int32} : am_run 146 82 [some (.ref l0), some (.ref l1), some (.int l2), some (.int l3), some (.int l4), none, some (.int l6), some (.int l7), none] [.int s0] w = am_run 146 87 [some (.ref l0), some (.ref l1), some (.int l2), some (.int l3), some (.int l4), none, some (.int l6), some (.int l7), none] [.int (nI 1), .int s0] w := by
  refine (bu (ls'' := [some (.ref l0), some (.ref l1), some (.int l2), some (.int l3), some (.int l4), none, some (.int l6), some (.int l7), none]) (st' := [.int (nI 1), .int s0]) bf146_82 bf146_83 rfl rfl).trans ?_
  refine (bu (ls'' := [some (.ref l0), some (.ref l1), some (.int l2), some (.int l3), some (.int l4), none, some (.int l6), some (.int l7), none]) (st' := [.int (nI 1), .int s0]) bf146_83 bf146_87 rfl rfl).trans ?_
  rfl
theorem bk146_165 {w : am_Wd} {l1 : Nat} {l2 : Int32} {l3 : Int32} {l4 : Int32} {l5 : Int32} {s0 : Int32} {s1 : Int32} {s2 : Nat} {s3 : Nat} : am_run 146 165 [none, some (.ref l1), some (.int l2), some (.int l3), some (.int l4), some (.int l5), none, none, none] [.int s0, .int s1, .ref s2, .ref s3] w = (am_wi 0 w s2 s1 s0).bind fun w' => am_run 146 166 [none, some (.ref l1), some (.int l2), some (.int l3), some (.int l4), some (.int l5), none, none, none] [.ref s3] w' := by
  exact bh bf146_165 bf146_166 rfl (bge_wi) rfl
theorem bk146_87 {w : am_Wd} {l0 : Nat} {l1 : Nat} {l2 : Int32} {l3 : Int32} {l4 : Int32} {l6 : Int32} {l7 : Int32} {s0 : Int32} {s1 : Int32} : am_run 146 87 [some (.ref l0), some (.ref l1), some (.int l2), some (.int l3), some (.int l4), none, some (.int l6), some (.int l7), none] [.int s0, .int s1] w = (am_kf w l0 11).bind fun _ => (am_x 101 [.ref l0, .int l6, .int l7] w).bind fun r => bct r fun v w' => am_run 146 95 [some (.ref l0), some (.ref l1), some (.int l2), some (.int l3), some (.int l4), none, some (.int l6), some (.int l7), none] (v.toList ++ [.int s0, .int s1]) w' := by
  refine (bu (ls'' := [some (.ref l0), some (.ref l1), some (.int l2), some (.int l3), some (.int l4), none, some (.int l6), some (.int l7), none]) (st' := [.ref l0, .int s0, .int s1]) bf146_87 bf146_88 rfl rfl).trans ?_
  refine (bu (ls'' := [some (.ref l0), some (.ref l1), some (.int l2), some (.int l3), some (.int l4), none, some (.int l6), some (.int l7), none]) (st' := [.int l6, .ref l0, .int s0, .int s1]) bf146_88 bf146_90 rfl rfl).trans ?_
  refine (bu (ls'' := [some (.ref l0), some (.ref l1), some (.int l2), some (.int l3), some (.int l4), none, some (.int l6), some (.int l7), none]) (st' := [.int l7, .int l6, .ref l0, .int s0, .int s1]) bf146_90 bf146_92 rfl rfl).trans ?_
  exact bkV bf146_92 bf146_95 rfl (by decide +kernel) (Nat.le_of_ble_eq_true rfl) rfl (bhd rfl)
theorem bk146_166 {w : am_Wd} {l1 : Nat} {l2 : Int32} {l3 : Int32} {l4 : Int32} {l5 : Int32} {s0 : Nat} : am_run 146 166 [none, some (.ref l1), some (.int l2), some (.int l3), some (.int l4), some (.int l5), none, none, none] [.ref s0] w = (am_wi 0 w s0 (nI 5) l3).bind fun w' => am_run 146 170 [none, some (.ref l1), some (.int l2), some (.int l3), some (.int l4), some (.int l5), none, none, none] [.ref s0] w' := by
  refine (bu (ls'' := [none, some (.ref l1), some (.int l2), some (.int l3), some (.int l4), some (.int l5), none, none, none]) (st' := [.ref s0, .ref s0]) bf146_166 bf146_167 rfl rfl).trans ?_
  refine (bu (ls'' := [none, some (.ref l1), some (.int l2), some (.int l3), some (.int l4), some (.int l5), none, none, none]) (st' := [.int (nI 5), .ref s0, .ref s0]) bf146_167 bf146_168 rfl rfl).trans ?_
  refine (bu (ls'' := [none, some (.ref l1), some (.int l2), some (.int l3), some (.int l4), some (.int l5), none, none, none]) (st' := [.int l3, .int (nI 5), .ref s0, .ref s0]) bf146_168 bf146_169 rfl rfl).trans ?_
  exact bh bf146_169 bf146_170 rfl (bge_wi) rfl
theorem bk146_95 {w : am_Wd} {l0 : Nat} {l1 : Nat} {l2 : Int32} {l3 : Int32} {l4 : Int32} {l6 : Int32} {l7 : Int32} {s0 : Int32} {s1 : Int32} {s2 : Int32} : am_run 146 95 [some (.ref l0), some (.ref l1), some (.int l2), some (.int l3), some (.int l4), none, some (.int l6), some (.int l7), none] [.int s0, .int s1, .int s2] w = if ¬ s1 = s0 then am_run 146 102 [some (.ref l0), some (.ref l1), some (.int l2), some (.int l3), some (.int l4), none, some (.int l6), some (.int l7), none] [.int s2] w else am_run 146 98 [some (.ref l0), some (.ref l1), some (.int l2), some (.int l3), some (.int l4), none, some (.int l6), some (.int l7), none] [.int s2] w := by
  exact bic bf146_95 rfl bf146_102 bf146_98 rfl rfl rfl
theorem bk146_170 {w : am_Wd} {l1 : Nat} {l2 : Int32} {l3 : Int32} {l4 : Int32} {l5 : Int32} {s0 : Nat} : am_run 146 170 [none, some (.ref l1), some (.int l2), some (.int l3), some (.int l4), some (.int l5), none, none, none] [.ref s0] w = (am_wi 0 w s0 (nI 6) l4).bind fun w' => am_run 146 176 [none, some (.ref l1), some (.int l2), some (.int l3), some (.int l4), some (.int l5), none, none, none] [.ref s0] w' := by
  refine (bu (ls'' := [none, some (.ref l1), some (.int l2), some (.int l3), some (.int l4), some (.int l5), none, none, none]) (st' := [.ref s0, .ref s0]) bf146_170 bf146_171 rfl rfl).trans ?_
  refine (bu (ls'' := [none, some (.ref l1), some (.int l2), some (.int l3), some (.int l4), some (.int l5), none, none, none]) (st' := [.int (nI 6), .ref s0, .ref s0]) bf146_171 bf146_173 rfl rfl).trans ?_
  refine (bu (ls'' := [none, some (.ref l1), some (.int l2), some (.int l3), some (.int l4), some (.int l5), none, none, none]) (st' := [.int l4, .int (nI 6), .ref s0, .ref s0]) bf146_173 bf146_175 rfl rfl).trans ?_
  exact bh bf146_175 bf146_176 rfl (bge_wi) rfl
theorem bk146_98 {w : am_Wd} {l0 : Nat} {l1 : Nat} {l2 : Int32} {l3 : Int32} {l4 : Int32} {l6 : Int32} {l7 : Int32} {s0 : Int32} : am_run 146 98 [some (.ref l0), some (.ref l1), some (.int l2), some (.int l3), some (.int l4), none, some (.int l6), some (.int l7), none] [.int s0] w = am_run 146 103 [some (.ref l0), some (.ref l1), some (.int l2), some (.int l3), some (.int l4), none, some (.int l6), some (.int l7), none] [.int (nI 1), .int s0] w := by
  refine (bu (ls'' := [some (.ref l0), some (.ref l1), some (.int l2), some (.int l3), some (.int l4), none, some (.int l6), some (.int l7), none]) (st' := [.int (nI 1), .int s0]) bf146_98 bf146_99 rfl rfl).trans ?_
  refine (bu (ls'' := [some (.ref l0), some (.ref l1), some (.int l2), some (.int l3), some (.int l4), none, some (.int l6), some (.int l7), none]) (st' := [.int (nI 1), .int s0]) bf146_99 bf146_103 rfl rfl).trans ?_
  rfl
theorem bk146_176 {w : am_Wd} {l1 : Nat} {l2 : Int32} {l3 : Int32} {l4 : Int32} {l5 : Int32} {s0 : Nat} : am_run 146 176 [none, some (.ref l1), some (.int l2), some (.int l3), some (.int l4), some (.int l5), none, none, none] [.ref s0] w = (am_wi 0 w s0 (nI 7) l5).bind fun w' => am_run 146 182 [none, some (.ref l1), some (.int l2), some (.int l3), some (.int l4), some (.int l5), none, none, none] [.ref s0] w' := by
  refine (bu (ls'' := [none, some (.ref l1), some (.int l2), some (.int l3), some (.int l4), some (.int l5), none, none, none]) (st' := [.ref s0, .ref s0]) bf146_176 bf146_177 rfl rfl).trans ?_
  refine (bu (ls'' := [none, some (.ref l1), some (.int l2), some (.int l3), some (.int l4), some (.int l5), none, none, none]) (st' := [.int (nI 7), .ref s0, .ref s0]) bf146_177 bf146_179 rfl rfl).trans ?_
  refine (bu (ls'' := [none, some (.ref l1), some (.int l2), some (.int l3), some (.int l4), some (.int l5), none, none, none]) (st' := [.int l5, .int (nI 7), .ref s0, .ref s0]) bf146_179 bf146_181 rfl rfl).trans ?_
  exact bh bf146_181 bf146_182 rfl (bge_wi) rfl
theorem bk146_182 {w : am_Wd} {l1 : Nat} {l2 : Int32} {l3 : Int32} {l4 : Int32} {l5 : Int32} {s0 : Nat} : am_run 146 182 [none, some (.ref l1), some (.int l2), some (.int l3), some (.int l4), some (.int l5), none, none, none] [.ref s0] w = (am_wi 0 w s0 (nI 8) ((l3 + l4) - l5)).bind fun w' => am_run 146 193 [none, some (.ref l1), some (.int l2), none, none, none, none, none, none] [.ref s0] w' := by
  refine (bu (ls'' := [none, some (.ref l1), some (.int l2), some (.int l3), some (.int l4), some (.int l5), none, none, none]) (st' := [.ref s0, .ref s0]) bf146_182 bf146_183 rfl rfl).trans ?_
  refine (bu (ls'' := [none, some (.ref l1), some (.int l2), some (.int l3), some (.int l4), some (.int l5), none, none, none]) (st' := [.int (nI 8), .ref s0, .ref s0]) bf146_183 bf146_185 rfl rfl).trans ?_
  refine (bu (ls'' := [none, some (.ref l1), some (.int l2), none, some (.int l4), some (.int l5), none, none, none]) (st' := [.int l3, .int (nI 8), .ref s0, .ref s0]) bf146_185 bf146_186 rfl rfl).trans ?_
  refine (bu (ls'' := [none, some (.ref l1), some (.int l2), none, none, some (.int l5), none, none, none]) (st' := [.int l4, .int l3, .int (nI 8), .ref s0, .ref s0]) bf146_186 bf146_188 rfl rfl).trans ?_
  refine (bu (ls'' := [none, some (.ref l1), some (.int l2), none, none, some (.int l5), none, none, none]) (st' := [.int (l3 + l4), .int (nI 8), .ref s0, .ref s0]) bf146_188 bf146_189 rfl rfl).trans ?_
  refine (bu (ls'' := [none, some (.ref l1), some (.int l2), none, none, none, none, none, none]) (st' := [.int l5, .int (l3 + l4), .int (nI 8), .ref s0, .ref s0]) bf146_189 bf146_191 rfl rfl).trans ?_
  refine (bu (ls'' := [none, some (.ref l1), some (.int l2), none, none, none, none, none, none]) (st' := [.int ((l3 + l4) - l5), .int (nI 8), .ref s0, .ref s0]) bf146_191 bf146_192 rfl rfl).trans ?_
  exact bh bf146_192 bf146_193 rfl (bge_wi) rfl
theorem bk146_193 {w : am_Wd} {l1 : Nat} {l2 : Int32} {s0 : Nat} : am_run 146 193 [none, some (.ref l1), some (.int l2), none, none, none, none, none, none] [.ref s0] w = (am_gf w l1 10 5).bind fun v => am_run 146 200 [none, some (.ref l1), some (.int l2), none, none, none, none, none, none] (v :: [.int (nI 9), .ref s0, .ref s0]) w := by
  refine (bu (ls'' := [none, some (.ref l1), some (.int l2), none, none, none, none, none, none]) (st' := [.ref s0, .ref s0]) bf146_193 bf146_194 rfl rfl).trans ?_
  refine (bu (ls'' := [none, some (.ref l1), some (.int l2), none, none, none, none, none, none]) (st' := [.int (nI 9), .ref s0, .ref s0]) bf146_194 bf146_196 rfl rfl).trans ?_
  refine (bu (ls'' := [none, some (.ref l1), some (.int l2), none, none, none, none, none, none]) (st' := [.ref l1, .int (nI 9), .ref s0, .ref s0]) bf146_196 bf146_197 rfl rfl).trans ?_
  exact bh bf146_197 bf146_200 rfl (fun _ _ => am_ge_rf w) rfl
theorem bk146_200 {w : am_Wd} {l1 : Nat} {l2 : Int32} {s0 : Int32} {s1 : Int32} {s2 : Nat} {s3 : Nat} : am_run 146 200 [none, some (.ref l1), some (.int l2), none, none, none, none, none, none] [.int s0, .int s1, .ref s2, .ref s3] w = (am_wi 0 w s2 s1 s0).bind fun w' => am_run 146 201 [none, some (.ref l1), some (.int l2), none, none, none, none, none, none] [.ref s3] w' := by
  exact bh bf146_200 bf146_201 rfl (bge_wi) rfl
theorem bk146_201 {w : am_Wd} {l1 : Nat} {l2 : Int32} {s0 : Nat} : am_run 146 201 [none, some (.ref l1), some (.int l2), none, none, none, none, none, none] [.ref s0] w = (am_gf w l1 10 6).bind fun v => am_run 146 208 [none, some (.ref l1), some (.int l2), none, none, none, none, none, none] (v :: [.int (nI 10), .ref s0, .ref s0]) w := by
  refine (bu (ls'' := [none, some (.ref l1), some (.int l2), none, none, none, none, none, none]) (st' := [.ref s0, .ref s0]) bf146_201 bf146_202 rfl rfl).trans ?_
  refine (bu (ls'' := [none, some (.ref l1), some (.int l2), none, none, none, none, none, none]) (st' := [.int (nI 10), .ref s0, .ref s0]) bf146_202 bf146_204 rfl rfl).trans ?_
  refine (bu (ls'' := [none, some (.ref l1), some (.int l2), none, none, none, none, none, none]) (st' := [.ref l1, .int (nI 10), .ref s0, .ref s0]) bf146_204 bf146_205 rfl rfl).trans ?_
  exact bh bf146_205 bf146_208 rfl (fun _ _ => am_ge_rf w) rfl
theorem bk146_208 {w : am_Wd} {l1 : Nat} {l2 : Int32} {s0 : Int32} {s1 : Int32} {s2 : Nat} {s3 : Nat} : am_run 146 208 [none, some (.ref l1), some (.int l2), none, none, none, none, none, none] [.int s0, .int s1, .ref s2, .ref s3] w = (am_wi 0 w s2 s1 s0).bind fun w' => am_run 146 209 [none, some (.ref l1), some (.int l2), none, none, none, none, none, none] [.ref s3] w' := by
  exact bh bf146_208 bf146_209 rfl (bge_wi) rfl
theorem bk146_209 {w : am_Wd} {l1 : Nat} {l2 : Int32} {s0 : Nat} : am_run 146 209 [none, some (.ref l1), some (.int l2), none, none, none, none, none, none] [.ref s0] w = (am_gf w l1 10 7).bind fun v => am_run 146 216 [none, some (.ref l1), some (.int l2), none, none, none, none, none, none] (v :: [.int (nI 11), .ref s0, .ref s0]) w := by
  refine (bu (ls'' := [none, some (.ref l1), some (.int l2), none, none, none, none, none, none]) (st' := [.ref s0, .ref s0]) bf146_209 bf146_210 rfl rfl).trans ?_
  refine (bu (ls'' := [none, some (.ref l1), some (.int l2), none, none, none, none, none, none]) (st' := [.int (nI 11), .ref s0, .ref s0]) bf146_210 bf146_212 rfl rfl).trans ?_
  refine (bu (ls'' := [none, some (.ref l1), some (.int l2), none, none, none, none, none, none]) (st' := [.ref l1, .int (nI 11), .ref s0, .ref s0]) bf146_212 bf146_213 rfl rfl).trans ?_
  exact bh bf146_213 bf146_216 rfl (fun _ _ => am_ge_rf w) rfl
theorem bk146_216 {w : am_Wd} {l1 : Nat} {l2 : Int32} {s0 : Int32} {s1 : Int32} {s2 : Nat} {s3 : Nat} : am_run 146 216 [none, some (.ref l1), some (.int l2), none, none, none, none, none, none] [.int s0, .int s1, .ref s2, .ref s3] w = (am_wi 0 w s2 s1 s0).bind fun w' => am_run 146 217 [none, some (.ref l1), some (.int l2), none, none, none, none, none, none] [.ref s3] w' := by
  exact bh bf146_216 bf146_217 rfl (bge_wi) rfl
theorem bk146_217 {w : am_Wd} {l1 : Nat} {l2 : Int32} {s0 : Nat} : am_run 146 217 [none, some (.ref l1), some (.int l2), none, none, none, none, none, none] [.ref s0] w = (am_gf w l1 10 8).bind fun v => am_run 146 224 [none, none, some (.int l2), none, none, none, none, none, none] (v :: [.int (nI 12), .ref s0, .ref s0]) w := by
  refine (bu (ls'' := [none, some (.ref l1), some (.int l2), none, none, none, none, none, none]) (st' := [.ref s0, .ref s0]) bf146_217 bf146_218 rfl rfl).trans ?_
  refine (bu (ls'' := [none, some (.ref l1), some (.int l2), none, none, none, none, none, none]) (st' := [.int (nI 12), .ref s0, .ref s0]) bf146_218 bf146_220 rfl rfl).trans ?_
  refine (bu (ls'' := [none, none, some (.int l2), none, none, none, none, none, none]) (st' := [.ref l1, .int (nI 12), .ref s0, .ref s0]) bf146_220 bf146_221 rfl rfl).trans ?_
  exact bh bf146_221 bf146_224 rfl (fun _ _ => am_ge_rf w) rfl
theorem bk146_224 {w : am_Wd} {l2 : Int32} {s0 : Int32} {s1 : Int32} {s2 : Nat} {s3 : Nat} : am_run 146 224 [none, none, some (.int l2), none, none, none, none, none, none] [.int s0, .int s1, .ref s2, .ref s3] w = (am_wi 0 w s2 s1 s0).bind fun w' => am_run 146 225 [none, none, some (.int l2), none, none, none, none, none, none] [.ref s3] w' := by
  exact bh bf146_224 bf146_225 rfl (bge_wi) rfl
theorem bk146_225 {w : am_Wd} {l2 : Int32} {s0 : Nat} : am_run 146 225 [none, none, some (.int l2), none, none, none, none, none, none] [.ref s0] w = (am_ri 0 w s0 l2).bind fun v => am_run 146 231 [none, none, none, none, none, none, none, none, none] (.int v :: []) w := by
  refine (bu (ls'' := [none, none, some (.int l2), none, none, none, some (.ref s0), none, none]) (st' := []) bf146_225 bf146_227 rfl rfl).trans ?_
  refine (bu (ls'' := [none, none, some (.int l2), none, none, none, none, none, none]) (st' := [.ref s0]) bf146_227 bf146_229 rfl rfl).trans ?_
  refine (bu (ls'' := [none, none, none, none, none, none, none, none, none]) (st' := [.int l2, .ref s0]) bf146_229 bf146_230 rfl rfl).trans ?_
  exact bh bf146_230 bf146_231 rfl (fun _ _ => am_ge_rf w) rfl
theorem bk146_231 {w : am_Wd} {s0 : Int32} : am_run 146 231 [none, none, none, none, none, none, none, none, none] [.int s0] w = some (.inl (some (.int s0)), w) := by
  exact am_e2 bf146_231 rfl (am_ge_rf w)
theorem bf147_0 : am_fetch (am_mth 147) 0 = some (.aload 4, 2, [], [5]) := by decide +kernel
theorem bf147_2 : am_fetch (am_mth 147) 2 = some (.aload_n 0, 1, [], [4, 5]) := by decide +kernel
theorem bf147_3 : am_fetch (am_mth 147) 3 = some (.iload_n 1, 1, [], [0, 4, 5]) := by decide +kernel
theorem bf147_4 : am_fetch (am_mth 147) 4 = some (.iload_n 2, 1, [], [0, 1, 4, 5]) := by decide +kernel
theorem bf147_5 : am_fetch (am_mth 147) 5 = some (.iload_n 3, 1, [], [0, 1, 2, 4, 5]) := by decide +kernel
theorem bf147_6 : am_fetch (am_mth 147) 6 = some (.invokevirtual 27, 3, [0, 90, 3, 8, 528, 529, 530, 46], [0, 1, 2, 3, 4, 5]) := by decide +kernel
theorem bf147_9 : am_fetch (am_mth 147) 9 = some (.i2l, 1, [], [0, 1, 2, 3, 4, 5]) := by decide +kernel
theorem bf147_10 : am_fetch (am_mth 147) 10 = some (.putfield 13, 3, [1, 9, 0, 485], [0, 1, 2, 3, 4, 5]) := by decide +kernel
theorem bf147_13 : am_fetch (am_mth 147) 13 = some (.goto 7, 3, [], [0, 1, 2, 3, 4, 5]) := by decide +kernel
theorem bf147_16 : am_fetch (am_mth 147) 16 = some (.astore 5, 2, [], [0, 1, 2, 3, 4, 5]) := by decide +kernel
theorem bf147_18 : am_fetch (am_mth 147) 18 = some (.iconst 1, 1, [], [0, 1, 2, 3, 4, 5]) := by decide +kernel
theorem bf147_19 : am_fetch (am_mth 147) 19 = some (.ireturn, 1, [0], [0, 1, 2, 3, 4, 5]) := by decide +kernel
theorem bf147_20 : am_fetch (am_mth 147) 20 = some (.iconst 0, 1, [], [0, 1, 2, 3, 4, 5]) := by decide +kernel
theorem bf147_21 : am_fetch (am_mth 147) 21 = some (.ireturn, 1, [0], [0, 1, 2, 3, 4, 5]) := by decide +kernel
theorem bk147_0 {w : am_Wd} {l0 : Nat} {l1 : Int32} {l2 : Int32} {l3 : Int32} {l4 : Nat} : am_run 147 0 [some (.ref l0), some (.int l1), some (.int l2), some (.int l3), some (.ref l4), none] [] w = (am_kf w l0 8).bind fun _ => (am_x 90 [.ref l0, .int l1, .int l2, .int l3] w).bind fun r => am_af 147 6 r (fun v w' => am_run 147 9 [none, none, none, none, none, none] (v.toList ++ [.ref l4]) w') (fun h w' => am_run 147 h (am_nrm 147 h [none, none, none, none, none, none]) [] w') := by
  refine (bu (ls'' := [some (.ref l0), some (.int l1), some (.int l2), some (.int l3), none, none]) (st' := [.ref l4]) bf147_0 bf147_2 rfl rfl).trans ?_
  refine (bu (ls'' := [none, some (.int l1), some (.int l2), some (.int l3), none, none]) (st' := [.ref l0, .ref l4]) bf147_2 bf147_3 rfl rfl).trans ?_
  refine (bu (ls'' := [none, none, some (.int l2), some (.int l3), none, none]) (st' := [.int l1, .ref l0, .ref l4]) bf147_3 bf147_4 rfl rfl).trans ?_
  refine (bu (ls'' := [none, none, none, some (.int l3), none, none]) (st' := [.int l2, .int l1, .ref l0, .ref l4]) bf147_4 bf147_5 rfl rfl).trans ?_
  refine (bu (ls'' := [none, none, none, none, none, none]) (st' := [.int l3, .int l2, .int l1, .ref l0, .ref l4]) bf147_5 bf147_6 rfl rfl).trans ?_
  exact bkHV bf147_6 bf147_9 rfl (by decide +kernel) (Nat.le_of_ble_eq_true rfl) rfl
theorem bk147_9 {w : am_Wd} {s0 : Int32} {s1 : Nat} : am_run 147 9 [none, none, none, none, none, none] [.int s0, .ref s1] w = (am_pf w s1 9 0 (.long (Int32.toInt64 s0))).bind fun w' => am_run 147 13 [none, none, none, none, none, none] [] w' := by
  refine (bu (ls'' := [none, none, none, none, none, none]) (st' := [.long (Int32.toInt64 s0), .ref s1]) bf147_9 bf147_10 rfl rfl).trans ?_
  exact bh bf147_10 bf147_13 rfl (bge_pf) rfl
theorem bk147_18 {w : am_Wd}  : am_run 147 18 [none, none, none, none, none, none] [] w = some (.inl (some (.int (nI 1))), w) := by
  refine (bu (ls'' := [none, none, none, none, none, none]) (st' := [.int (nI 1)]) bf147_18 bf147_19 rfl rfl).trans ?_
  exact am_e2 bf147_19 rfl (am_ge_rf w)
theorem bk147_13 {w : am_Wd}  : am_run 147 13 [none, none, none, none, none, none] [] w = some (.inl (some (.int (nI 0))), w) := by
  refine (bu (ls'' := [none, none, none, none, none, none]) (st' := []) bf147_13 bf147_20 rfl rfl).trans ?_
  refine (bu (ls'' := [none, none, none, none, none, none]) (st' := [.int (nI 0)]) bf147_20 bf147_21 rfl rfl).trans ?_
  exact am_e2 bf147_21 rfl (am_ge_rf w)
theorem bf148_0 : am_fetch (am_mth 148) 0 = some (.aload_n 2, 1, [], [3]) := by decide +kernel
theorem bf148_1 : am_fetch (am_mth 148) 1 = some (.aload_n 0, 1, [], [2, 3]) := by decide +kernel
theorem bf148_2 : am_fetch (am_mth 148) 2 = some (.iload_n 1, 1, [], [0, 2, 3]) := by decide +kernel
theorem bf148_3 : am_fetch (am_mth 148) 3 = some (.invokevirtual 99, 3, [0, 91, 1, 8, 1135, 465, 466, 46], [0, 1, 2, 3]) := by decide +kernel
theorem bf148_6 : am_fetch (am_mth 148) 6 = some (.putfield 103, 3, [1, 9, 1, 486], [0, 1, 2, 3]) := by decide +kernel
theorem bf148_9 : am_fetch (am_mth 148) 9 = some (.goto 6, 3, [], [0, 1, 2, 3]) := by decide +kernel
theorem bf148_12 : am_fetch (am_mth 148) 12 = some (.astore_n 3, 1, [], [0, 1, 2, 3]) := by decide +kernel
theorem bf148_13 : am_fetch (am_mth 148) 13 = some (.iconst 1, 1, [], [0, 1, 2, 3]) := by decide +kernel
theorem bf148_14 : am_fetch (am_mth 148) 14 = some (.ireturn, 1, [0], [0, 1, 2, 3]) := by decide +kernel
theorem bf148_15 : am_fetch (am_mth 148) 15 = some (.iconst 0, 1, [], [0, 1, 2, 3]) := by decide +kernel
theorem bf148_16 : am_fetch (am_mth 148) 16 = some (.ireturn, 1, [0], [0, 1, 2, 3]) := by decide +kernel
theorem bk148_0 {w : am_Wd} {l0 : Nat} {l1 : Int32} {l2 : Nat} : am_run 148 0 [some (.ref l0), some (.int l1), some (.ref l2), none] [] w = (am_kf w l0 8).bind fun _ => (am_x 91 [.ref l0, .int l1] w).bind fun r => am_af 148 3 r (fun v w' => am_run 148 6 [none, none, none, none] (v.toList ++ [.ref l2]) w') (fun h w' => am_run 148 h (am_nrm 148 h [none, none, none, none]) [] w') := by
  refine (bu (ls'' := [some (.ref l0), some (.int l1), none, none]) (st' := [.ref l2]) bf148_0 bf148_1 rfl rfl).trans ?_
  refine (bu (ls'' := [none, some (.int l1), none, none]) (st' := [.ref l0, .ref l2]) bf148_1 bf148_2 rfl rfl).trans ?_
  refine (bu (ls'' := [none, none, none, none]) (st' := [.int l1, .ref l0, .ref l2]) bf148_2 bf148_3 rfl rfl).trans ?_
  exact bkHV bf148_3 bf148_6 rfl (by decide +kernel) (Nat.le_of_ble_eq_true rfl) rfl
theorem bk148_6 {w : am_Wd} {s0 : UInt64} {s1 : Nat} : am_run 148 6 [none, none, none, none] [.double s0, .ref s1] w = (am_pf w s1 9 1 (.double s0)).bind fun w' => am_run 148 9 [none, none, none, none] [] w' := by
  exact bh bf148_6 bf148_9 rfl (bge_pf) rfl
theorem bk148_13 {w : am_Wd}  : am_run 148 13 [none, none, none, none] [] w = some (.inl (some (.int (nI 1))), w) := by
  refine (bu (ls'' := [none, none, none, none]) (st' := [.int (nI 1)]) bf148_13 bf148_14 rfl rfl).trans ?_
  exact am_e2 bf148_14 rfl (am_ge_rf w)
theorem bk148_9 {w : am_Wd}  : am_run 148 9 [none, none, none, none] [] w = some (.inl (some (.int (nI 0))), w) := by
  refine (bu (ls'' := [none, none, none, none]) (st' := []) bf148_9 bf148_15 rfl rfl).trans ?_
  refine (bu (ls'' := [none, none, none, none]) (st' := [.int (nI 0)]) bf148_15 bf148_16 rfl rfl).trans ?_
  exact am_e2 bf148_16 rfl (am_ge_rf w)
theorem bf149_0 : am_fetch (am_mth 149) 0 = some (.iload_n 3, 1, [], []) := by decide +kernel
theorem bf149_1 : am_fetch (am_mth 149) 1 = some (.aload_n 2, 1, [], []) := by decide +kernel
theorem bf149_2 : am_fetch (am_mth 149) 2 = some (.arraylength, 1, [], []) := by decide +kernel
theorem bf149_3 : am_fetch (am_mth 149) 3 = some (.if_icmp .ne 8, 3, [], []) := by decide +kernel
theorem bf149_6 : am_fetch (am_mth 149) 6 = some (.aload_n 0, 1, [], [2]) := by decide +kernel
theorem bf149_7 : am_fetch (am_mth 149) 7 = some (.invokevirtual 129, 3, [0, 104, 0, 3, 1344, 1346, 22, 51], [2]) := by decide +kernel
theorem bf149_10 : am_fetch (am_mth 149) 10 = some (.astore_n 2, 1, [], [2]) := by decide +kernel
theorem bf149_11 : am_fetch (am_mth 149) 11 = some (.aload_n 2, 1, [], []) := by decide +kernel
theorem bf149_12 : am_fetch (am_mth 149) 12 = some (.iload_n 3, 1, [], [2]) := by decide +kernel
theorem bf149_13 : am_fetch (am_mth 149) 13 = some (.aload_n 1, 1, [], [2]) := by decide +kernel
theorem bf149_14 : am_fetch (am_mth 149) 14 = some (.aastore, 1, [5, 10, 0], [1, 2]) := by decide +kernel
theorem bf149_15 : am_fetch (am_mth 149) 15 = some (.aload_n 0, 1, [], [1, 2]) := by decide +kernel
theorem bf149_16 : am_fetch (am_mth 149) 16 = some (.iload_n 3, 1, [], [0, 1, 2]) := by decide +kernel
theorem bf149_17 : am_fetch (am_mth 149) 17 = some (.iconst 1, 1, [], [0, 1, 2, 3]) := by decide +kernel
theorem bf149_18 : am_fetch (am_mth 149) 18 = some (.iadd, 1, [], [0, 1, 2, 3]) := by decide +kernel
theorem bf149_19 : am_fetch (am_mth 149) 19 = some (.putfield 48, 3, [0, 3, 2, 1184], [0, 1, 2, 3]) := by decide +kernel
theorem bf149_22 : am_fetch (am_mth 149) 22 = some (.return_, 1, [], [0, 1, 2, 3]) := by decide +kernel
theorem bk149_0 {w : am_Wd} {l0 : Nat} {l1 : Nat} {l2 : Nat} {l3 : Int32} : am_run 149 0 [some (.ref l0), some (.ref l1), some (.ref l2), some (.int l3)] [] w = (am_len w l2).bind fun v => am_run 149 3 [some (.ref l0), some (.ref l1), some (.ref l2), some (.int l3)] (.int (nI v) :: [.int l3]) w := by
  refine (bu (ls'' := [some (.ref l0), some (.ref l1), some (.ref l2), some (.int l3)]) (st' := [.int l3]) bf149_0 bf149_1 rfl rfl).trans ?_
  refine (bu (ls'' := [some (.ref l0), some (.ref l1), some (.ref l2), some (.int l3)]) (st' := [.ref l2, .int l3]) bf149_1 bf149_2 rfl rfl).trans ?_
  exact bh bf149_2 bf149_3 rfl (fun _ _ => am_ge_rf w) rfl
theorem bk149_3 {w : am_Wd} {l0 : Nat} {l1 : Nat} {l2 : Nat} {l3 : Int32} {s0 : Int32} {s1 : Int32} : am_run 149 3 [some (.ref l0), some (.ref l1), some (.ref l2), some (.int l3)] [.int s0, .int s1] w = if ¬ s1 = s0 then am_run 149 11 [some (.ref l0), some (.ref l1), some (.ref l2), some (.int l3)] [] w else am_run 149 6 [some (.ref l0), some (.ref l1), none, some (.int l3)] [] w := by
  exact bic bf149_3 rfl bf149_11 bf149_6 rfl rfl rfl
theorem bk149_11 {w : am_Wd} {l0 : Nat} {l1 : Nat} {l2 : Nat} {l3 : Int32} : am_run 149 11 [some (.ref l0), some (.ref l1), some (.ref l2), some (.int l3)] [] w = (am_wq 5 10 w l2 l3 l1).bind fun w' => am_run 149 15 [some (.ref l0), none, none, some (.int l3)] [] w' := by
  refine (bu (ls'' := [some (.ref l0), some (.ref l1), none, some (.int l3)]) (st' := [.ref l2]) bf149_11 bf149_12 rfl rfl).trans ?_
  refine (bu (ls'' := [some (.ref l0), some (.ref l1), none, some (.int l3)]) (st' := [.int l3, .ref l2]) bf149_12 bf149_13 rfl rfl).trans ?_
  refine (bu (ls'' := [some (.ref l0), none, none, some (.int l3)]) (st' := [.ref l1, .int l3, .ref l2]) bf149_13 bf149_14 rfl rfl).trans ?_
  exact bh bf149_14 bf149_15 rfl (bge_wq) rfl
theorem bk149_6 {w : am_Wd} {l0 : Nat} {l1 : Nat} {l3 : Int32} : am_run 149 6 [some (.ref l0), some (.ref l1), none, some (.int l3)] [] w = (am_kf w l0 3).bind fun _ => (am_x 104 [.ref l0] w).bind fun r => bct r fun v w' => am_run 149 10 [some (.ref l0), some (.ref l1), none, some (.int l3)] (v.toList ++ []) w' := by
  refine (bu (ls'' := [some (.ref l0), some (.ref l1), none, some (.int l3)]) (st' := [.ref l0]) bf149_6 bf149_7 rfl rfl).trans ?_
  exact bkV bf149_7 bf149_10 rfl (by decide +kernel) (Nat.le_of_ble_eq_true rfl) rfl (bhd rfl)
theorem bk149_15 {w : am_Wd} {l0 : Nat} {l3 : Int32} : am_run 149 15 [some (.ref l0), none, none, some (.int l3)] [] w = (am_pf w l0 3 2 (.int (l3 + (nI 1)))).bind fun w' => am_run 149 22 [none, none, none, none] [] w' := by
  refine (bu (ls'' := [none, none, none, some (.int l3)]) (st' := [.ref l0]) bf149_15 bf149_16 rfl rfl).trans ?_
  refine (bu (ls'' := [none, none, none, none]) (st' := [.int l3, .ref l0]) bf149_16 bf149_17 rfl rfl).trans ?_
  refine (bu (ls'' := [none, none, none, none]) (st' := [.int (nI 1), .int l3, .ref l0]) bf149_17 bf149_18 rfl rfl).trans ?_
  refine (bu (ls'' := [none, none, none, none]) (st' := [.int (l3 + (nI 1)), .ref l0]) bf149_18 bf149_19 rfl rfl).trans ?_
  exact bh bf149_19 bf149_22 rfl (bge_pf) rfl
theorem bk149_10 {w : am_Wd} {l0 : Nat} {l1 : Nat} {l3 : Int32} {s0 : Nat} : am_run 149 10 [some (.ref l0), some (.ref l1), none, some (.int l3)] [.ref s0] w = am_run 149 11 [some (.ref l0), some (.ref l1), some (.ref s0), some (.int l3)] [] w := by
  refine (bu (ls'' := [some (.ref l0), some (.ref l1), some (.ref s0), some (.int l3)]) (st' := []) bf149_10 bf149_11 rfl rfl).trans ?_
  rfl
theorem bk149_22 {w : am_Wd}  : am_run 149 22 [none, none, none, none] [] w = some (.inl none, w) := by
  exact am_e2 bf149_22 rfl (am_ge_rf w)
theorem bf150_0 : am_fetch (am_mth 150) 0 = some (.iload_n 1, 1, [], []) := by decide +kernel
theorem bf150_1 : am_fetch (am_mth 150) 1 = some (.aload_n 0, 1, [], []) := by decide +kernel
theorem bf150_2 : am_fetch (am_mth 150) 2 = some (.getfield 48, 3, [0, 3, 2, 1184], []) := by decide +kernel
theorem bf150_5 : am_fetch (am_mth 150) 5 = some (.invokestatic 118, 3, [0, 107, 2, 1395, 1396, 70], []) := by decide +kernel
theorem bf150_8 : am_fetch (am_mth 150) 8 = some (.pop, 1, [], []) := by decide +kernel
theorem bf150_9 : am_fetch (am_mth 150) 9 = some (.aload_n 0, 1, [], []) := by decide +kernel
theorem bf150_10 : am_fetch (am_mth 150) 10 = some (.iload_n 1, 1, [], [0]) := by decide +kernel
theorem bf150_11 : am_fetch (am_mth 150) 11 = some (.invokevirtual 123, 3, [0, 54, 1, 3, 1399, 1400, 1401, 51], [0, 1]) := by decide +kernel
theorem bf150_14 : am_fetch (am_mth 150) 14 = some (.areturn, 1, [], [0, 1]) := by decide +kernel
theorem bk150_0 {w : am_Wd} {l0 : Nat} {l1 : Int32} : am_run 150 0 [some (.ref l0), some (.int l1)] [] w = (am_gf w l0 3 2).bind fun v => am_run 150 5 [some (.ref l0), some (.int l1)] (v :: [.int l1]) w := by
  refine (bu (ls'' := [some (.ref l0), some (.int l1)]) (st' := [.int l1]) bf150_0 bf150_1 rfl rfl).trans ?_
  refine (bu (ls'' := [some (.ref l0), some (.int l1)]) (st' := [.ref l0, .int l1]) bf150_1 bf150_2 rfl rfl).trans ?_
  exact bh bf150_2 bf150_5 rfl (fun _ _ => am_ge_rf w) rfl
theorem bk150_5 {w : am_Wd} {l0 : Nat} {l1 : Int32} {s0 : Int32} {s1 : Int32} : am_run 150 5 [some (.ref l0), some (.int l1)] [.int s0, .int s1] w = (am_x 107 [.int s1, .int s0] w).bind fun r => bct r fun v w' => am_run 150 8 [some (.ref l0), some (.int l1)] (v.toList ++ []) w' := by
  exact bkS bf150_5 bf150_8 rfl (by decide +kernel) (Nat.le_of_ble_eq_true rfl) rfl (bhd rfl)
theorem bk150_8 {w : am_Wd} {l0 : Nat} {l1 : Int32} {s0 : Int32} : am_run 150 8 [some (.ref l0), some (.int l1)] [.int s0] w = (am_kf w l0 3).bind fun _ => (am_x 54 [.ref l0, .int l1] w).bind fun r => bct r fun v w' => am_run 150 14 [none, none] (v.toList ++ []) w' := by
  refine (bu (ls'' := [some (.ref l0), some (.int l1)]) (st' := []) bf150_8 bf150_9 rfl rfl).trans ?_
  refine (bu (ls'' := [none, some (.int l1)]) (st' := [.ref l0]) bf150_9 bf150_10 rfl rfl).trans ?_
  refine (bu (ls'' := [none, none]) (st' := [.int l1, .ref l0]) bf150_10 bf150_11 rfl rfl).trans ?_
  exact bkV bf150_11 bf150_14 rfl (by decide +kernel) (Nat.le_of_ble_eq_true rfl) rfl (bhd rfl)
theorem bk150_14 {w : am_Wd} {s0 : Nat} : am_run 150 14 [none, none] [.ref s0] w = some (.inl (some (.ref s0)), w) := by
  exact am_e2 bf150_14 rfl (am_ge_rf w)
theorem bf151_0 : am_fetch (am_mth 151) 0 = some (.aload_n 0, 1, [], []) := by decide +kernel
theorem bf151_1 : am_fetch (am_mth 151) 1 = some (.invokespecial 1, 3, [0, 106, 0, 1172, 1173, 50], []) := by decide +kernel
theorem bf151_4 : am_fetch (am_mth 151) 4 = some (.aload_n 0, 1, [], []) := by decide +kernel
theorem bf151_5 : am_fetch (am_mth 151) 5 = some (.getstatic 39, 3, [1, 1, 1179], [0]) := by decide +kernel
theorem bf151_8 : am_fetch (am_mth 151) 8 = some (.putfield 9, 3, [0, 3, 1, 1181], [0]) := by decide +kernel
theorem bf151_11 : am_fetch (am_mth 151) 11 = some (.return_, 1, [], [0]) := by decide +kernel
theorem bk151_0 {w : am_Wd} {l0 : Nat} : am_run 151 0 [some (.ref l0)] [] w = (am_x 106 [.ref l0] w).bind fun r => bct r fun v w' => am_run 151 4 [some (.ref l0)] (v.toList ++ []) w' := by
  refine (bu (ls'' := [some (.ref l0)]) (st' := [.ref l0]) bf151_0 bf151_1 rfl rfl).trans ?_
  exact bkS bf151_1 bf151_4 rfl (by decide +kernel) (Nat.le_of_ble_eq_true rfl) rfl (bhd rfl)
theorem bk151_4 {w : am_Wd} {l0 : Nat} {sg : Nat} (hg : w.2.2.2 1 = some sg) : am_run 151 4 [some (.ref l0)] [] w = am_run 151 8 [none] (.ref sg :: [.ref l0]) w := by
  refine (bu (ls'' := [none]) (st' := [.ref l0]) bf151_4 bf151_5 rfl rfl).trans ?_
  exact bu (ls'' := [none]) (st' := .ref sg :: [.ref l0]) bf151_5 bf151_8 (by show some _ = _; rw [hg]; rfl) rfl
theorem bk151_8 {w : am_Wd} {s0 : Nat} {s1 : Nat} : am_run 151 8 [none] [.ref s0, .ref s1] w = (am_pf w s1 3 1 (.ref s0)).bind fun w' => am_run 151 11 [none] [] w' := by
  exact bh bf151_8 bf151_11 rfl (bge_pf) rfl
theorem bk151_11 {w : am_Wd}  : am_run 151 11 [none] [] w = some (.inl none, w) := by
  exact am_e2 bf151_11 rfl (am_ge_rf w)
theorem bf157_0 : am_fetch (am_mth 157) 0 = some (.iload_n 1, 1, [], [2, 3, 4]) := by decide +kernel
theorem bf157_1 : am_fetch (am_mth 157) 1 = some (.istore_n 2, 1, [], [1, 2, 3, 4]) := by decide +kernel
theorem bf157_2 : am_fetch (am_mth 157) 2 = some (.iconst 0, 1, [], [1, 3, 4]) := by decide +kernel
theorem bf157_3 : am_fetch (am_mth 157) 3 = some (.istore_n 3, 1, [], [1, 3, 4]) := by decide +kernel
theorem bf157_4 : am_fetch (am_mth 157) 4 = some (.iload_n 3, 1, [], [1, 4]) := by decide +kernel
theorem bf157_5 : am_fetch (am_mth 157) 5 = some (.bipush 36, 2, [], [1, 4]) := by decide +kernel
theorem bf157_7 : am_fetch (am_mth 157) 7 = some (.if_icmp .ge 58, 3, [], [1, 4]) := by decide +kernel
theorem bf157_10 : am_fetch (am_mth 157) 10 = some (.iconst 1, 1, [], [1, 4]) := by decide +kernel
theorem bf157_11 : am_fetch (am_mth 157) 11 = some (.istore 4, 2, [], [1, 4]) := by decide +kernel
theorem bf157_13 : am_fetch (am_mth 157) 13 = some (.iload 4, 2, [], [1]) := by decide +kernel
theorem bf157_15 : am_fetch (am_mth 157) 15 = some (.iconst 2, 1, [], [1]) := by decide +kernel
theorem bf157_16 : am_fetch (am_mth 157) 16 = some (.if_icmp .gt 43, 3, [], [1]) := by decide +kernel
theorem bf157_19 : am_fetch (am_mth 157) 19 = some (.iload_n 3, 1, [], [1]) := by decide +kernel
theorem bf157_20 : am_fetch (am_mth 157) 20 = some (.iload 4, 2, [], [1]) := by decide +kernel
theorem bf157_22 : am_fetch (am_mth 157) 22 = some (.invokestatic 18, 3, [0, 13, 2, 180, 181, 57], [1]) := by decide +kernel
theorem bf157_25 : am_fetch (am_mth 157) 25 = some (.iconst (-1), 1, [], [1]) := by decide +kernel
theorem bf157_26 : am_fetch (am_mth 157) 26 = some (.if_icmp .eq 27, 3, [], [1]) := by decide +kernel
theorem bf157_29 : am_fetch (am_mth 157) 29 = some (.iload_n 2, 1, [], [1]) := by decide +kernel
theorem bf157_30 : am_fetch (am_mth 157) 30 = some (.invokestatic 36, 3, [0, 27, 1, 521, 522, 46], [1, 2]) := by decide +kernel
theorem bf157_33 : am_fetch (am_mth 157) 33 = some (.istore_n 2, 1, [], [1, 2]) := by decide +kernel
theorem bf157_34 : am_fetch (am_mth 157) 34 = some (.aload_n 0, 1, [], [1]) := by decide +kernel
theorem bf157_35 : am_fetch (am_mth 157) 35 = some (.iload_n 3, 1, [], [1]) := by decide +kernel
theorem bf157_36 : am_fetch (am_mth 157) 36 = some (.iload 4, 2, [], [1]) := by decide +kernel
theorem bf157_38 : am_fetch (am_mth 157) 38 = some (.iload_n 2, 1, [], [1]) := by decide +kernel
theorem bf157_39 : am_fetch (am_mth 157) 39 = some (.bipush 40, 2, [], [1]) := by decide +kernel
theorem bf157_41 : am_fetch (am_mth 157) 41 = some (.if_icmp .ge 7, 3, [], [1]) := by decide +kernel
theorem bf157_44 : am_fetch (am_mth 157) 44 = some (.iconst 1, 1, [], [1]) := by decide +kernel
theorem bf157_45 : am_fetch (am_mth 157) 45 = some (.goto 4, 3, [], [1]) := by decide +kernel
theorem bf157_48 : am_fetch (am_mth 157) 48 = some (.iconst 0, 1, [], [1]) := by decide +kernel
theorem bf157_49 : am_fetch (am_mth 157) 49 = some (.iconst 0, 1, [], [1]) := by decide +kernel
theorem bf157_50 : am_fetch (am_mth 157) 50 = some (.invokevirtual 40, 3, [0, 123, 4, 5, 524, 507, 508, 47], [1]) := by decide +kernel
theorem bf157_53 : am_fetch (am_mth 157) 53 = some (.iinc 4 1, 3, [], [1]) := by decide +kernel
theorem bf157_56 : am_fetch (am_mth 157) 56 = some (.goto (-43), 3, [], [1]) := by decide +kernel
theorem bf157_59 : am_fetch (am_mth 157) 59 = some (.iinc 3 1, 3, [], [1, 4]) := by decide +kernel
theorem bf157_62 : am_fetch (am_mth 157) 62 = some (.goto (-58), 3, [], [1, 4]) := by decide +kernel
theorem bf157_65 : am_fetch (am_mth 157) 65 = some (.return_, 1, [], [0, 1, 2, 3, 4]) := by decide +kernel
theorem bk157_0 {w : am_Wd} {l0 : Nat} {l1 : Int32} : am_run 157 0 [some (.ref l0), some (.int l1), none, none, none] [] w = am_run 157 4 [some (.ref l0), none, some (.int l1), some (.int (nI 0)), none] [] w := by
  refine (bu (ls'' := [some (.ref l0), none, none, none, none]) (st' := [.int l1]) bf157_0 bf157_1 rfl rfl).trans ?_
  refine (bu (ls'' := [some (.ref l0), none, some (.int l1), none, none]) (st' := []) bf157_1 bf157_2 rfl rfl).trans ?_
  refine (bu (ls'' := [some (.ref l0), none, some (.int l1), none, none]) (st' := [.int (nI 0)]) bf157_2 bf157_3 rfl rfl).trans ?_
  refine (bu (ls'' := [some (.ref l0), none, some (.int l1), some (.int (nI 0)), none]) (st' := []) bf157_3 bf157_4 rfl rfl).trans ?_
  rfl
theorem bk157_4 {w : am_Wd} {l0 : Nat} {l2 : Int32} {l3 : Int32} : am_run 157 4 [some (.ref l0), none, some (.int l2), some (.int l3), none] [] w = if (nI 36) ≤ l3 then am_run 157 65 [none, none, none, none, none] [] w else am_run 157 10 [some (.ref l0), none, some (.int l2), some (.int l3), none] [] w := by
  refine (bu (ls'' := [some (.ref l0), none, some (.int l2), some (.int l3), none]) (st' := [.int l3]) bf157_4 bf157_5 rfl rfl).trans ?_
  refine (bu (ls'' := [some (.ref l0), none, some (.int l2), some (.int l3), none]) (st' := [.int (nI 36), .int l3]) bf157_5 bf157_7 rfl rfl).trans ?_
  exact bic bf157_7 rfl bf157_65 bf157_10 rfl rfl rfl
theorem bk157_65 {w : am_Wd}  : am_run 157 65 [none, none, none, none, none] [] w = some (.inl none, w) := by
  exact am_e2 bf157_65 rfl (am_ge_rf w)
theorem bk157_10 {w : am_Wd} {l0 : Nat} {l2 : Int32} {l3 : Int32} : am_run 157 10 [some (.ref l0), none, some (.int l2), some (.int l3), none] [] w = am_run 157 13 [some (.ref l0), none, some (.int l2), some (.int l3), some (.int (nI 1))] [] w := by
  refine (bu (ls'' := [some (.ref l0), none, some (.int l2), some (.int l3), none]) (st' := [.int (nI 1)]) bf157_10 bf157_11 rfl rfl).trans ?_
  refine (bu (ls'' := [some (.ref l0), none, some (.int l2), some (.int l3), some (.int (nI 1))]) (st' := []) bf157_11 bf157_13 rfl rfl).trans ?_
  rfl
theorem bk157_13 {w : am_Wd} {l0 : Nat} {l2 : Int32} {l3 : Int32} {l4 : Int32} : am_run 157 13 [some (.ref l0), none, some (.int l2), some (.int l3), some (.int l4)] [] w = if (nI 2) < l4 then am_run 157 59 [some (.ref l0), none, some (.int l2), some (.int l3), none] [] w else am_run 157 19 [some (.ref l0), none, some (.int l2), some (.int l3), some (.int l4)] [] w := by
  refine (bu (ls'' := [some (.ref l0), none, some (.int l2), some (.int l3), some (.int l4)]) (st' := [.int l4]) bf157_13 bf157_15 rfl rfl).trans ?_
  refine (bu (ls'' := [some (.ref l0), none, some (.int l2), some (.int l3), some (.int l4)]) (st' := [.int (nI 2), .int l4]) bf157_15 bf157_16 rfl rfl).trans ?_
  exact bic bf157_16 rfl bf157_59 bf157_19 rfl rfl rfl
theorem bk157_59 {w : am_Wd} {l0 : Nat} {l2 : Int32} {l3 : Int32} : am_run 157 59 [some (.ref l0), none, some (.int l2), some (.int l3), none] [] w = am_run 157 4 [some (.ref l0), none, some (.int l2), some (.int (l3 + (nI 1))), none] [] w := by
  refine (bu (ls'' := [some (.ref l0), none, some (.int l2), some (.int (l3 + (nI 1))), none]) (st' := []) bf157_59 bf157_62 rfl rfl).trans ?_
  refine (bu (ls'' := [some (.ref l0), none, some (.int l2), some (.int (l3 + (nI 1))), none]) (st' := []) bf157_62 bf157_4 rfl rfl).trans ?_
  rfl
theorem bk157_19 {w : am_Wd} {l0 : Nat} {l2 : Int32} {l3 : Int32} {l4 : Int32} : am_run 157 19 [some (.ref l0), none, some (.int l2), some (.int l3), some (.int l4)] [] w = (am_x 13 [.int l3, .int l4] w).bind fun r => bct r fun v w' => am_run 157 25 [some (.ref l0), none, some (.int l2), some (.int l3), some (.int l4)] (v.toList ++ []) w' := by
  refine (bu (ls'' := [some (.ref l0), none, some (.int l2), some (.int l3), some (.int l4)]) (st' := [.int l3]) bf157_19 bf157_20 rfl rfl).trans ?_
  refine (bu (ls'' := [some (.ref l0), none, some (.int l2), some (.int l3), some (.int l4)]) (st' := [.int l4, .int l3]) bf157_20 bf157_22 rfl rfl).trans ?_
  exact bkS bf157_22 bf157_25 rfl (by decide +kernel) (Nat.le_of_ble_eq_true rfl) rfl (bhd rfl)
theorem bk157_25 {w : am_Wd} {l0 : Nat} {l2 : Int32} {l3 : Int32} {l4 : Int32} {s0 : Int32} : am_run 157 25 [some (.ref l0), none, some (.int l2), some (.int l3), some (.int l4)] [.int s0] w = if s0 = (-1 : Int32) then am_run 157 53 [some (.ref l0), none, some (.int l2), some (.int l3), some (.int l4)] [] w else am_run 157 29 [some (.ref l0), none, some (.int l2), some (.int l3), some (.int l4)] [] w := by
  refine (bu (ls'' := [some (.ref l0), none, some (.int l2), some (.int l3), some (.int l4)]) (st' := [.int (-1 : Int32), .int s0]) bf157_25 bf157_26 rfl rfl).trans ?_
  exact bic bf157_26 rfl bf157_53 bf157_29 rfl rfl rfl
theorem bk157_53 {w : am_Wd} {l0 : Nat} {l2 : Int32} {l3 : Int32} {l4 : Int32} : am_run 157 53 [some (.ref l0), none, some (.int l2), some (.int l3), some (.int l4)] [] w = am_run 157 13 [some (.ref l0), none, some (.int l2), some (.int l3), some (.int (l4 + (nI 1)))] [] w := by
  refine (bu (ls'' := [some (.ref l0), none, some (.int l2), some (.int l3), some (.int (l4 + (nI 1)))]) (st' := []) bf157_53 bf157_56 rfl rfl).trans ?_
  refine (bu (ls'' := [some (.ref l0), none, some (.int l2), some (.int l3), some (.int (l4 + (nI 1)))]) (st' := []) bf157_56 bf157_13 rfl rfl).trans ?_
  rfl
theorem bk157_29 {w : am_Wd} {l0 : Nat} {l2 : Int32} {l3 : Int32} {l4 : Int32} : am_run 157 29 [some (.ref l0), none, some (.int l2), some (.int l3), some (.int l4)] [] w = (am_x 27 [.int l2] w).bind fun r => bct r fun v w' => am_run 157 33 [some (.ref l0), none, none, some (.int l3), some (.int l4)] (v.toList ++ []) w' := by
  refine (bu (ls'' := [some (.ref l0), none, none, some (.int l3), some (.int l4)]) (st' := [.int l2]) bf157_29 bf157_30 rfl rfl).trans ?_
  exact bkS bf157_30 bf157_33 rfl (by decide +kernel) (Nat.le_of_ble_eq_true rfl) rfl (bhd rfl)
theorem bk157_33 {w : am_Wd} {l0 : Nat} {l3 : Int32} {l4 : Int32} {s0 : Int32} : am_run 157 33 [some (.ref l0), none, none, some (.int l3), some (.int l4)] [.int s0] w = if (nI 40) ≤ s0 then am_run 157 48 [some (.ref l0), none, some (.int s0), some (.int l3), some (.int l4)] [.int l4, .int l3, .ref l0] w else am_run 157 44 [some (.ref l0), none, some (.int s0), some (.int l3), some (.int l4)] [.int l4, .int l3, .ref l0] w := by
  refine (bu (ls'' := [some (.ref l0), none, some (.int s0), some (.int l3), some (.int l4)]) (st' := []) bf157_33 bf157_34 rfl rfl).trans ?_
  refine (bu (ls'' := [some (.ref l0), none, some (.int s0), some (.int l3), some (.int l4)]) (st' := [.ref l0]) bf157_34 bf157_35 rfl rfl).trans ?_
  refine (bu (ls'' := [some (.ref l0), none, some (.int s0), some (.int l3), some (.int l4)]) (st' := [.int l3, .ref l0]) bf157_35 bf157_36 rfl rfl).trans ?_
  refine (bu (ls'' := [some (.ref l0), none, some (.int s0), some (.int l3), some (.int l4)]) (st' := [.int l4, .int l3, .ref l0]) bf157_36 bf157_38 rfl rfl).trans ?_
  refine (bu (ls'' := [some (.ref l0), none, some (.int s0), some (.int l3), some (.int l4)]) (st' := [.int s0, .int l4, .int l3, .ref l0]) bf157_38 bf157_39 rfl rfl).trans ?_
  refine (bu (ls'' := [some (.ref l0), none, some (.int s0), some (.int l3), some (.int l4)]) (st' := [.int (nI 40), .int s0, .int l4, .int l3, .ref l0]) bf157_39 bf157_41 rfl rfl).trans ?_
  exact bic bf157_41 rfl bf157_48 bf157_44 rfl rfl rfl
theorem bk157_48 {w : am_Wd} {l0 : Nat} {l2 : Int32} {l3 : Int32} {l4 : Int32} {s0 : Int32} {s1 : Int32} {s2 : Nat} : am_run 157 48 [some (.ref l0), none, some (.int l2), some (.int l3), some (.int l4)] [.int s0, .int s1, .ref s2] w = am_run 157 49 [some (.ref l0), none, some (.int l2), some (.int l3), some (.int l4)] [.int (nI 0), .int s0, .int s1, .ref s2] w := by
  refine (bu (ls'' := [some (.ref l0), none, some (.int l2), some (.int l3), some (.int l4)]) (st' := [.int (nI 0), .int s0, .int s1, .ref s2]) bf157_48 bf157_49 rfl rfl).trans ?_
  rfl
theorem bk157_44 {w : am_Wd} {l0 : Nat} {l2 : Int32} {l3 : Int32} {l4 : Int32} {s0 : Int32} {s1 : Int32} {s2 : Nat} : am_run 157 44 [some (.ref l0), none, some (.int l2), some (.int l3), some (.int l4)] [.int s0, .int s1, .ref s2] w = am_run 157 49 [some (.ref l0), none, some (.int l2), some (.int l3), some (.int l4)] [.int (nI 1), .int s0, .int s1, .ref s2] w := by
  refine (bu (ls'' := [some (.ref l0), none, some (.int l2), some (.int l3), some (.int l4)]) (st' := [.int (nI 1), .int s0, .int s1, .ref s2]) bf157_44 bf157_45 rfl rfl).trans ?_
  refine (bu (ls'' := [some (.ref l0), none, some (.int l2), some (.int l3), some (.int l4)]) (st' := [.int (nI 1), .int s0, .int s1, .ref s2]) bf157_45 bf157_49 rfl rfl).trans ?_
  rfl
theorem bk157_49 {w : am_Wd} {l0 : Nat} {l2 : Int32} {l3 : Int32} {l4 : Int32} {s0 : Int32} {s1 : Int32} {s2 : Int32} {s3 : Nat} : am_run 157 49 [some (.ref l0), none, some (.int l2), some (.int l3), some (.int l4)] [.int s0, .int s1, .int s2, .ref s3] w = (am_kf w s3 5).bind fun _ => (am_x 123 [.ref s3, .int s2, .int s1, .int s0, .int (nI 0)] w).bind fun r => bct r fun v w' => am_run 157 53 [some (.ref l0), none, some (.int l2), some (.int l3), some (.int l4)] (v.toList ++ []) w' := by
  refine (bu (ls'' := [some (.ref l0), none, some (.int l2), some (.int l3), some (.int l4)]) (st' := [.int (nI 0), .int s0, .int s1, .int s2, .ref s3]) bf157_49 bf157_50 rfl rfl).trans ?_
  exact bkV bf157_50 bf157_53 rfl (by decide +kernel) (Nat.le_of_ble_eq_true rfl) rfl (bhd rfl)
theorem bf158_0 : am_fetch (am_mth 158) 0 = some (.iconst 0, 1, [], [4, 5]) := by decide +kernel
theorem bf158_1 : am_fetch (am_mth 158) 1 = some (.istore 4, 2, [], [4, 5]) := by decide +kernel
theorem bf158_3 : am_fetch (am_mth 158) 3 = some (.iconst 0, 1, [], [5]) := by decide +kernel
theorem bf158_4 : am_fetch (am_mth 158) 4 = some (.istore 5, 2, [], [5]) := by decide +kernel
theorem bf158_6 : am_fetch (am_mth 158) 6 = some (.iload 5, 2, [], []) := by decide +kernel
theorem bf158_8 : am_fetch (am_mth 158) 8 = some (.iconst 3, 1, [], []) := by decide +kernel
theorem bf158_9 : am_fetch (am_mth 158) 9 = some (.if_icmp .ge 33, 3, [], []) := by decide +kernel
theorem bf158_12 : am_fetch (am_mth 158) 12 = some (.aload_n 0, 1, [], []) := by decide +kernel
theorem bf158_13 : am_fetch (am_mth 158) 13 = some (.iload_n 1, 1, [], []) := by decide +kernel
theorem bf158_14 : am_fetch (am_mth 158) 14 = some (.iload_n 2, 1, [], []) := by decide +kernel
theorem bf158_15 : am_fetch (am_mth 158) 15 = some (.iload 5, 2, [], []) := by decide +kernel
theorem bf158_17 : am_fetch (am_mth 158) 17 = some (.invokestatic 57, 3, [0, 15, 2, 747, 457, 57], []) := by decide +kernel
theorem bf158_20 : am_fetch (am_mth 158) 20 = some (.iload_n 3, 1, [], []) := by decide +kernel
theorem bf158_21 : am_fetch (am_mth 158) 21 = some (.invokevirtual 60, 3, [0, 126, 3, 5, 183, 184, 185, 47], []) := by decide +kernel
theorem bf158_24 : am_fetch (am_mth 158) 24 = some (.ifCond .eq 12, 3, [], []) := by decide +kernel
theorem bf158_27 : am_fetch (am_mth 158) 27 = some (.iload 4, 2, [], []) := by decide +kernel
theorem bf158_29 : am_fetch (am_mth 158) 29 = some (.iconst 1, 1, [], [4]) := by decide +kernel
theorem bf158_30 : am_fetch (am_mth 158) 30 = some (.iload 5, 2, [], [4]) := by decide +kernel
theorem bf158_32 : am_fetch (am_mth 158) 32 = some (.ishl, 1, [], [4]) := by decide +kernel
theorem bf158_33 : am_fetch (am_mth 158) 33 = some (.ior, 1, [], [4]) := by decide +kernel
theorem bf158_34 : am_fetch (am_mth 158) 34 = some (.istore 4, 2, [], [4]) := by decide +kernel
theorem bf158_36 : am_fetch (am_mth 158) 36 = some (.iinc 5 1, 3, [], []) := by decide +kernel
theorem bf158_39 : am_fetch (am_mth 158) 39 = some (.goto (-33), 3, [], []) := by decide +kernel
theorem bf158_42 : am_fetch (am_mth 158) 42 = some (.iload 4, 2, [], [0, 1, 2, 3, 5]) := by decide +kernel
theorem bf158_44 : am_fetch (am_mth 158) 44 = some (.ireturn, 1, [0], [0, 1, 2, 3, 4, 5]) := by decide +kernel
theorem bk158_0 {w : am_Wd} {l0 : Nat} {l1 : Int32} {l2 : Int32} {l3 : Int32} : am_run 158 0 [some (.ref l0), some (.int l1), some (.int l2), some (.int l3), none, none] [] w = am_run 158 6 [some (.ref l0), some (.int l1), some (.int l2), some (.int l3), some (.int (nI 0)), some (.int (nI 0))] [] w := by
  refine (bu (ls'' := [some (.ref l0), some (.int l1), some (.int l2), some (.int l3), none, none]) (st' := [.int (nI 0)]) bf158_0 bf158_1 rfl rfl).trans ?_
  refine (bu (ls'' := [some (.ref l0), some (.int l1), some (.int l2), some (.int l3), some (.int (nI 0)), none]) (st' := []) bf158_1 bf158_3 rfl rfl).trans ?_
  refine (bu (ls'' := [some (.ref l0), some (.int l1), some (.int l2), some (.int l3), some (.int (nI 0)), none]) (st' := [.int (nI 0)]) bf158_3 bf158_4 rfl rfl).trans ?_
  refine (bu (ls'' := [some (.ref l0), some (.int l1), some (.int l2), some (.int l3), some (.int (nI 0)), some (.int (nI 0))]) (st' := []) bf158_4 bf158_6 rfl rfl).trans ?_
  rfl
theorem bk158_6 {w : am_Wd} {l0 : Nat} {l1 : Int32} {l2 : Int32} {l3 : Int32} {l4 : Int32} {l5 : Int32} : am_run 158 6 [some (.ref l0), some (.int l1), some (.int l2), some (.int l3), some (.int l4), some (.int l5)] [] w = if (nI 3) ≤ l5 then am_run 158 42 [none, none, none, none, some (.int l4), none] [] w else am_run 158 12 [some (.ref l0), some (.int l1), some (.int l2), some (.int l3), some (.int l4), some (.int l5)] [] w := by
  refine (bu (ls'' := [some (.ref l0), some (.int l1), some (.int l2), some (.int l3), some (.int l4), some (.int l5)]) (st' := [.int l5]) bf158_6 bf158_8 rfl rfl).trans ?_
  refine (bu (ls'' := [some (.ref l0), some (.int l1), some (.int l2), some (.int l3), some (.int l4), some (.int l5)]) (st' := [.int (nI 3), .int l5]) bf158_8 bf158_9 rfl rfl).trans ?_
  exact bic bf158_9 rfl bf158_42 bf158_12 rfl rfl rfl
theorem bk158_42 {w : am_Wd} {l4 : Int32} : am_run 158 42 [none, none, none, none, some (.int l4), none] [] w = some (.inl (some (.int l4)), w) := by
  refine (bu (ls'' := [none, none, none, none, none, none]) (st' := [.int l4]) bf158_42 bf158_44 rfl rfl).trans ?_
  exact am_e2 bf158_44 rfl (am_ge_rf w)
theorem bk158_12 {w : am_Wd} {l0 : Nat} {l1 : Int32} {l2 : Int32} {l3 : Int32} {l4 : Int32} {l5 : Int32} : am_run 158 12 [some (.ref l0), some (.int l1), some (.int l2), some (.int l3), some (.int l4), some (.int l5)] [] w = (am_x 15 [.int l2, .int l5] w).bind fun r => bct r fun v w' => am_run 158 20 [some (.ref l0), some (.int l1), some (.int l2), some (.int l3), some (.int l4), some (.int l5)] (v.toList ++ [.int l1, .ref l0]) w' := by
  refine (bu (ls'' := [some (.ref l0), some (.int l1), some (.int l2), some (.int l3), some (.int l4), some (.int l5)]) (st' := [.ref l0]) bf158_12 bf158_13 rfl rfl).trans ?_
  refine (bu (ls'' := [some (.ref l0), some (.int l1), some (.int l2), some (.int l3), some (.int l4), some (.int l5)]) (st' := [.int l1, .ref l0]) bf158_13 bf158_14 rfl rfl).trans ?_
  refine (bu (ls'' := [some (.ref l0), some (.int l1), some (.int l2), some (.int l3), some (.int l4), some (.int l5)]) (st' := [.int l2, .int l1, .ref l0]) bf158_14 bf158_15 rfl rfl).trans ?_
  refine (bu (ls'' := [some (.ref l0), some (.int l1), some (.int l2), some (.int l3), some (.int l4), some (.int l5)]) (st' := [.int l5, .int l2, .int l1, .ref l0]) bf158_15 bf158_17 rfl rfl).trans ?_
  exact bkS bf158_17 bf158_20 rfl (by decide +kernel) (Nat.le_of_ble_eq_true rfl) rfl (bhd rfl)
theorem bk158_20 {w : am_Wd} {l0 : Nat} {l1 : Int32} {l2 : Int32} {l3 : Int32} {l4 : Int32} {l5 : Int32} {s0 : Int32} {s1 : Int32} {s2 : Nat} : am_run 158 20 [some (.ref l0), some (.int l1), some (.int l2), some (.int l3), some (.int l4), some (.int l5)] [.int s0, .int s1, .ref s2] w = (am_kf w s2 5).bind fun _ => (am_x 126 [.ref s2, .int s1, .int s0, .int l3] w).bind fun r => bct r fun v w' => am_run 158 24 [some (.ref l0), some (.int l1), some (.int l2), some (.int l3), some (.int l4), some (.int l5)] (v.toList ++ []) w' := by
  refine (bu (ls'' := [some (.ref l0), some (.int l1), some (.int l2), some (.int l3), some (.int l4), some (.int l5)]) (st' := [.int l3, .int s0, .int s1, .ref s2]) bf158_20 bf158_21 rfl rfl).trans ?_
  exact bkV bf158_21 bf158_24 rfl (by decide +kernel) (Nat.le_of_ble_eq_true rfl) rfl (bhd rfl)
theorem bk158_24 {w : am_Wd} {l0 : Nat} {l1 : Int32} {l2 : Int32} {l3 : Int32} {l4 : Int32} {l5 : Int32} {s0 : Int32} : am_run 158 24 [some (.ref l0), some (.int l1), some (.int l2), some (.int l3), some (.int l4), some (.int l5)] [.int s0] w = if s0 = nI 0 then am_run 158 36 [some (.ref l0), some (.int l1), some (.int l2), some (.int l3), some (.int l4), some (.int l5)] [] w else am_run 158 27 [some (.ref l0), some (.int l1), some (.int l2), some (.int l3), some (.int l4), some (.int l5)] [] w := by
  exact bifc bf158_24 rfl bf158_36 bf158_27 rfl rfl rfl
theorem bk158_36 {w : am_Wd} {l0 : Nat} {l1 : Int32} {l2 : Int32} {l3 : Int32} {l4 : Int32} {l5 : Int32} : am_run 158 36 [some (.ref l0), some (.int l1), some (.int l2), some (.int l3), some (.int l4), some (.int l5)] [] w = am_run 158 6 [some (.ref l0), some (.int l1), some (.int l2), some (.int l3), some (.int l4), some (.int (l5 + (nI 1)))] [] w := by
  refine (bu (ls'' := [some (.ref l0), some (.int l1), some (.int l2), some (.int l3), some (.int l4), some (.int (l5 + (nI 1)))]) (st' := []) bf158_36 bf158_39 rfl rfl).trans ?_
  refine (bu (ls'' := [some (.ref l0), some (.int l1), some (.int l2), some (.int l3), some (.int l4), some (.int (l5 + (nI 1)))]) (st' := []) bf158_39 bf158_6 rfl rfl).trans ?_
  rfl
theorem bk158_27 {w : am_Wd} {l0 : Nat} {l1 : Int32} {l2 : Int32} {l3 : Int32} {l4 : Int32} {l5 : Int32} : am_run 158 27 [some (.ref l0), some (.int l1), some (.int l2), some (.int l3), some (.int l4), some (.int l5)] [] w = am_run 158 36 [some (.ref l0), some (.int l1), some (.int l2), some (.int l3), some (.int (l4 ||| (bj_ishl (nI 1) l5))), some (.int l5)] [] w := by
  refine (bu (ls'' := [some (.ref l0), some (.int l1), some (.int l2), some (.int l3), none, some (.int l5)]) (st' := [.int l4]) bf158_27 bf158_29 rfl rfl).trans ?_
  refine (bu (ls'' := [some (.ref l0), some (.int l1), some (.int l2), some (.int l3), none, some (.int l5)]) (st' := [.int (nI 1), .int l4]) bf158_29 bf158_30 rfl rfl).trans ?_
  refine (bu (ls'' := [some (.ref l0), some (.int l1), some (.int l2), some (.int l3), none, some (.int l5)]) (st' := [.int l5, .int (nI 1), .int l4]) bf158_30 bf158_32 rfl rfl).trans ?_
  refine (bu (ls'' := [some (.ref l0), some (.int l1), some (.int l2), some (.int l3), none, some (.int l5)]) (st' := [.int (bj_ishl (nI 1) l5), .int l4]) bf158_32 bf158_33 rfl rfl).trans ?_
  refine (bu (ls'' := [some (.ref l0), some (.int l1), some (.int l2), some (.int l3), none, some (.int l5)]) (st' := [.int (l4 ||| (bj_ishl (nI 1) l5))]) bf158_33 bf158_34 rfl rfl).trans ?_
  refine (bu (ls'' := [some (.ref l0), some (.int l1), some (.int l2), some (.int l3), some (.int (l4 ||| (bj_ishl (nI 1) l5))), some (.int l5)]) (st' := []) bf158_34 bf158_36 rfl rfl).trans ?_
  rfl
theorem bf159_0 : am_fetch (am_mth 159) 0 = some (.iconst 0, 1, [], [4, 5, 6, 7, 8]) := by decide +kernel
theorem bf159_1 : am_fetch (am_mth 159) 1 = some (.istore 4, 2, [], [4, 5, 6, 7, 8]) := by decide +kernel
theorem bf159_3 : am_fetch (am_mth 159) 3 = some (.iconst 0, 1, [], [5, 6, 7, 8]) := by decide +kernel
theorem bf159_4 : am_fetch (am_mth 159) 4 = some (.istore 5, 2, [], [5, 6, 7, 8]) := by decide +kernel
theorem bf159_6 : am_fetch (am_mth 159) 6 = some (.iload 5, 2, [], [6, 7, 8]) := by decide +kernel
theorem bf159_8 : am_fetch (am_mth 159) 8 = some (.bipush 36, 2, [], [6, 7, 8]) := by decide +kernel
theorem bf159_10 : am_fetch (am_mth 159) 10 = some (.if_icmp .ge 99, 3, [], [6, 7, 8]) := by decide +kernel
theorem bf159_13 : am_fetch (am_mth 159) 13 = some (.iconst 1, 1, [], [6, 7, 8]) := by decide +kernel
theorem bf159_14 : am_fetch (am_mth 159) 14 = some (.istore 6, 2, [], [6, 7, 8]) := by decide +kernel
theorem bf159_16 : am_fetch (am_mth 159) 16 = some (.iload 6, 2, [], [7, 8]) := by decide +kernel
theorem bf159_18 : am_fetch (am_mth 159) 18 = some (.iconst 2, 1, [], [7, 8]) := by decide +kernel
theorem bf159_19 : am_fetch (am_mth 159) 19 = some (.if_icmp .gt 84, 3, [], [7, 8]) := by decide +kernel
theorem bf159_22 : am_fetch (am_mth 159) 22 = some (.aload_n 1, 1, [], [7, 8]) := by decide +kernel
theorem bf159_23 : am_fetch (am_mth 159) 23 = some (.iload 5, 2, [], [7, 8]) := by decide +kernel
theorem bf159_25 : am_fetch (am_mth 159) 25 = some (.iload 6, 2, [], [7, 8]) := by decide +kernel
theorem bf159_27 : am_fetch (am_mth 159) 27 = some (.invokevirtual 64, 3, [0, 81, 2, 7, 173, 174, 175, 64], [7, 8]) := by decide +kernel
theorem bf159_30 : am_fetch (am_mth 159) 30 = some (.istore 7, 2, [], [7, 8]) := by decide +kernel
theorem bf159_32 : am_fetch (am_mth 159) 32 = some (.iload 5, 2, [], [8]) := by decide +kernel
theorem bf159_34 : am_fetch (am_mth 159) 34 = some (.iload 6, 2, [], [8]) := by decide +kernel
theorem bf159_36 : am_fetch (am_mth 159) 36 = some (.invokestatic 18, 3, [0, 13, 2, 180, 181, 57], [8]) := by decide +kernel
theorem bf159_39 : am_fetch (am_mth 159) 39 = some (.iconst (-1), 1, [], [8]) := by decide +kernel
theorem bf159_40 : am_fetch (am_mth 159) 40 = some (.if_icmp .eq 57, 3, [], [8]) := by decide +kernel
theorem bf159_43 : am_fetch (am_mth 159) 43 = some (.iload 7, 2, [], [8]) := by decide +kernel
theorem bf159_45 : am_fetch (am_mth 159) 45 = some (.ifCond .eq 52, 3, [], [8]) := by decide +kernel
theorem bf159_48 : am_fetch (am_mth 159) 48 = some (.aload_n 0, 1, [], [8]) := by decide +kernel
theorem bf159_49 : am_fetch (am_mth 159) 49 = some (.iload 5, 2, [], [8]) := by decide +kernel
theorem bf159_51 : am_fetch (am_mth 159) 51 = some (.iload 6, 2, [], [8]) := by decide +kernel
theorem bf159_53 : am_fetch (am_mth 159) 53 = some (.iload_n 3, 1, [], [8]) := by decide +kernel
theorem bf159_54 : am_fetch (am_mth 159) 54 = some (.invokevirtual 60, 3, [0, 126, 3, 5, 183, 184, 185, 47], [8]) := by decide +kernel
theorem bf159_57 : am_fetch (am_mth 159) 57 = some (.iload 7, 2, [], [8]) := by decide +kernel
theorem bf159_59 : am_fetch (am_mth 159) 59 = some (.iconst 2, 1, [], [7, 8]) := by decide +kernel
theorem bf159_60 : am_fetch (am_mth 159) 60 = some (.if_icmp .ne 7, 3, [], [7, 8]) := by decide +kernel
theorem bf159_63 : am_fetch (am_mth 159) 63 = some (.iconst 1, 1, [], [7, 8]) := by decide +kernel
theorem bf159_64 : am_fetch (am_mth 159) 64 = some (.goto 4, 3, [], [7, 8]) := by decide +kernel
theorem bf159_67 : am_fetch (am_mth 159) 67 = some (.iconst 0, 1, [], [7, 8]) := by decide +kernel
theorem bf159_68 : am_fetch (am_mth 159) 68 = some (.if_icmp .ne 7, 3, [], [7, 8]) := by decide +kernel
theorem bf159_71 : am_fetch (am_mth 159) 71 = some (.iconst 1, 1, [], [7, 8]) := by decide +kernel
theorem bf159_72 : am_fetch (am_mth 159) 72 = some (.goto 4, 3, [], [7, 8]) := by decide +kernel
theorem bf159_75 : am_fetch (am_mth 159) 75 = some (.iconst 0, 1, [], [7, 8]) := by decide +kernel
theorem bf159_76 : am_fetch (am_mth 159) 76 = some (.istore 8, 2, [], [7, 8]) := by decide +kernel
theorem bf159_78 : am_fetch (am_mth 159) 78 = some (.iload 4, 2, [], [7]) := by decide +kernel
theorem bf159_80 : am_fetch (am_mth 159) 80 = some (.iload 8, 2, [], [4, 7]) := by decide +kernel
theorem bf159_82 : am_fetch (am_mth 159) 82 = some (.iload_n 2, 1, [], [4, 7, 8]) := by decide +kernel
theorem bf159_83 : am_fetch (am_mth 159) 83 = some (.if_icmp .ne 7, 3, [], [4, 7, 8]) := by decide +kernel
theorem bf159_86 : am_fetch (am_mth 159) 86 = some (.iconst 1, 1, [], [4, 7, 8]) := by decide +kernel
theorem bf159_87 : am_fetch (am_mth 159) 87 = some (.goto 4, 3, [], [4, 7, 8]) := by decide +kernel
theorem bf159_90 : am_fetch (am_mth 159) 90 = some (.iconst 0, 1, [], [4, 7, 8]) := by decide +kernel
theorem bf159_91 : am_fetch (am_mth 159) 91 = some (.invokestatic 69, 3, [0, 26, 1, 199, 200, 46], [4, 7, 8]) := by decide +kernel
theorem bf159_94 : am_fetch (am_mth 159) 94 = some (.iadd, 1, [], [4, 7, 8]) := by decide +kernel
theorem bf159_95 : am_fetch (am_mth 159) 95 = some (.istore 4, 2, [], [4, 7, 8]) := by decide +kernel
theorem bf159_97 : am_fetch (am_mth 159) 97 = some (.iinc 6 1, 3, [], [7, 8]) := by decide +kernel
theorem bf159_100 : am_fetch (am_mth 159) 100 = some (.goto (-84), 3, [], [7, 8]) := by decide +kernel
theorem bf159_103 : am_fetch (am_mth 159) 103 = some (.iinc 5 1, 3, [], [6, 7, 8]) := by decide +kernel
theorem bf159_106 : am_fetch (am_mth 159) 106 = some (.goto (-100), 3, [], [6, 7, 8]) := by decide +kernel
theorem bf159_109 : am_fetch (am_mth 159) 109 = some (.iload 4, 2, [], [0, 1, 2, 3, 5, 6, 7, 8]) := by decide +kernel
theorem bf159_111 : am_fetch (am_mth 159) 111 = some (.ireturn, 1, [0], [0, 1, 2, 3, 4, 5, 6, 7, 8]) := by decide +kernel
theorem bk159_0 {w : am_Wd} {l0 : Nat} {l1 : Nat} {l2 : Int32} {l3 : Int32} : am_run 159 0 [some (.ref l0), some (.ref l1), some (.int l2), some (.int l3), none, none, none, none, none] [] w = am_run 159 6 [some (.ref l0), some (.ref l1), some (.int l2), some (.int l3), some (.int (nI 0)), some (.int (nI 0)), none, none, none] [] w := by
  refine (bu (ls'' := [some (.ref l0), some (.ref l1), some (.int l2), some (.int l3), none, none, none, none, none]) (st' := [.int (nI 0)]) bf159_0 bf159_1 rfl rfl).trans ?_
  refine (bu (ls'' := [some (.ref l0), some (.ref l1), some (.int l2), some (.int l3), some (.int (nI 0)), none, none, none, none]) (st' := []) bf159_1 bf159_3 rfl rfl).trans ?_
  refine (bu (ls'' := [some (.ref l0), some (.ref l1), some (.int l2), some (.int l3), some (.int (nI 0)), none, none, none, none]) (st' := [.int (nI 0)]) bf159_3 bf159_4 rfl rfl).trans ?_
  refine (bu (ls'' := [some (.ref l0), some (.ref l1), some (.int l2), some (.int l3), some (.int (nI 0)), some (.int (nI 0)), none, none, none]) (st' := []) bf159_4 bf159_6 rfl rfl).trans ?_
  rfl
theorem bk159_6 {w : am_Wd} {l0 : Nat} {l1 : Nat} {l2 : Int32} {l3 : Int32} {l4 : Int32} {l5 : Int32} : am_run 159 6 [some (.ref l0), some (.ref l1), some (.int l2), some (.int l3), some (.int l4), some (.int l5), none, none, none] [] w = if (nI 36) ≤ l5 then am_run 159 109 [none, none, none, none, some (.int l4), none, none, none, none] [] w else am_run 159 13 [some (.ref l0), some (.ref l1), some (.int l2), some (.int l3), some (.int l4), some (.int l5), none, none, none] [] w := by
  refine (bu (ls'' := [some (.ref l0), some (.ref l1), some (.int l2), some (.int l3), some (.int l4), some (.int l5), none, none, none]) (st' := [.int l5]) bf159_6 bf159_8 rfl rfl).trans ?_
  refine (bu (ls'' := [some (.ref l0), some (.ref l1), some (.int l2), some (.int l3), some (.int l4), some (.int l5), none, none, none]) (st' := [.int (nI 36), .int l5]) bf159_8 bf159_10 rfl rfl).trans ?_
  exact bic bf159_10 rfl bf159_109 bf159_13 rfl rfl rfl
theorem bk159_109 {w : am_Wd} {l4 : Int32} : am_run 159 109 [none, none, none, none, some (.int l4), none, none, none, none] [] w = some (.inl (some (.int l4)), w) := by
  refine (bu (ls'' := [none, none, none, none, none, none, none, none, none]) (st' := [.int l4]) bf159_109 bf159_111 rfl rfl).trans ?_
  exact am_e2 bf159_111 rfl (am_ge_rf w)
theorem bk159_13 {w : am_Wd} {l0 : Nat} {l1 : Nat} {l2 : Int32} {l3 : Int32} {l4 : Int32} {l5 : Int32} : am_run 159 13 [some (.ref l0), some (.ref l1), some (.int l2), some (.int l3), some (.int l4), some (.int l5), none, none, none] [] w = am_run 159 16 [some (.ref l0), some (.ref l1), some (.int l2), some (.int l3), some (.int l4), some (.int l5), some (.int (nI 1)), none, none] [] w := by
  refine (bu (ls'' := [some (.ref l0), some (.ref l1), some (.int l2), some (.int l3), some (.int l4), some (.int l5), none, none, none]) (st' := [.int (nI 1)]) bf159_13 bf159_14 rfl rfl).trans ?_
  refine (bu (ls'' := [some (.ref l0), some (.ref l1), some (.int l2), some (.int l3), some (.int l4), some (.int l5), some (.int (nI 1)), none, none]) (st' := []) bf159_14 bf159_16 rfl rfl).trans ?_
  rfl
theorem bk159_16 {w : am_Wd} {l0 : Nat} {l1 : Nat} {l2 : Int32} {l3 : Int32} {l4 : Int32} {l5 : Int32} {l6 : Int32} : am_run 159 16 [some (.ref l0), some (.ref l1), some (.int l2), some (.int l3), some (.int l4), some (.int l5), some (.int l6), none, none] [] w = if (nI 2) < l6 then am_run 159 103 [some (.ref l0), some (.ref l1), some (.int l2), some (.int l3), some (.int l4), some (.int l5), none, none, none] [] w else am_run 159 22 [some (.ref l0), some (.ref l1), some (.int l2), some (.int l3), some (.int l4), some (.int l5), some (.int l6), none, none] [] w := by
  refine (bu (ls'' := [some (.ref l0), some (.ref l1), some (.int l2), some (.int l3), some (.int l4), some (.int l5), some (.int l6), none, none]) (st' := [.int l6]) bf159_16 bf159_18 rfl rfl).trans ?_
  refine (bu (ls'' := [some (.ref l0), some (.ref l1), some (.int l2), some (.int l3), some (.int l4), some (.int l5), some (.int l6), none, none]) (st' := [.int (nI 2), .int l6]) bf159_18 bf159_19 rfl rfl).trans ?_
  exact bic bf159_19 rfl bf159_103 bf159_22 rfl rfl rfl
theorem bk159_103 {w : am_Wd} {l0 : Nat} {l1 : Nat} {l2 : Int32} {l3 : Int32} {l4 : Int32} {l5 : Int32} : am_run 159 103 [some (.ref l0), some (.ref l1), some (.int l2), some (.int l3), some (.int l4), some (.int l5), none, none, none] [] w = am_run 159 6 [some (.ref l0), some (.ref l1), some (.int l2), some (.int l3), some (.int l4), some (.int (l5 + (nI 1))), none, none, none] [] w := by
  refine (bu (ls'' := [some (.ref l0), some (.ref l1), some (.int l2), some (.int l3), some (.int l4), some (.int (l5 + (nI 1))), none, none, none]) (st' := []) bf159_103 bf159_106 rfl rfl).trans ?_
  refine (bu (ls'' := [some (.ref l0), some (.ref l1), some (.int l2), some (.int l3), some (.int l4), some (.int (l5 + (nI 1))), none, none, none]) (st' := []) bf159_106 bf159_6 rfl rfl).trans ?_
  rfl
theorem bk159_22 {w : am_Wd} {l0 : Nat} {l1 : Nat} {l2 : Int32} {l3 : Int32} {l4 : Int32} {l5 : Int32} {l6 : Int32} : am_run 159 22 [some (.ref l0), some (.ref l1), some (.int l2), some (.int l3), some (.int l4), some (.int l5), some (.int l6), none, none] [] w = (am_kf w l1 7).bind fun _ => (am_x 81 [.ref l1, .int l5, .int l6] w).bind fun r => bct r fun v w' => am_run 159 30 [some (.ref l0), some (.ref l1), some (.int l2), some (.int l3), some (.int l4), some (.int l5), some (.int l6), none, none] (v.toList ++ []) w' := by
  refine (bu (ls'' := [some (.ref l0), some (.ref l1), some (.int l2), some (.int l3), some (.int l4), some (.int l5), some (.int l6), none, none]) (st' := [.ref l1]) bf159_22 bf159_23 rfl rfl).trans ?_
  refine (bu (ls'' := [some (.ref l0), some (.ref l1), some (.int l2), some (.int l3), some (.int l4), some (.int l5), some (.int l6), none, none]) (st' := [.int l5, .ref l1]) bf159_23 bf159_25 rfl rfl).trans ?_
  refine (bu (ls'' := [some (.ref l0), some (.ref l1), some (.int l2), some (.int l3), some (.int l4), some (.int l5), some (.int l6), none, none]) (st' := [.int l6, .int l5, .ref l1]) bf159_25 bf159_27 rfl rfl).trans ?_
  exact bkV bf159_27 bf159_30 rfl (by decide +kernel) (Nat.le_of_ble_eq_true rfl) rfl (bhd rfl)
theorem bk159_30 {w : am_Wd} {l0 : Nat} {l1 : Nat} {l2 : Int32} {l3 : Int32} {l4 : Int32} {l5 : Int32} {l6 : Int32} {s0 : Int32} : am_run 159 30 [some (.ref l0), some (.ref l1), some (.int l2), some (.int l3), some (.int l4), some (.int l5), some (.int l6), none, none] [.int s0] w = (am_x 13 [.int l5, .int l6] w).bind fun r => bct r fun v w' => am_run 159 39 [some (.ref l0), some (.ref l1), some (.int l2), some (.int l3), some (.int l4), some (.int l5), some (.int l6), some (.int s0), none] (v.toList ++ []) w' := by
  refine (bu (ls'' := [some (.ref l0), some (.ref l1), some (.int l2), some (.int l3), some (.int l4), some (.int l5), some (.int l6), some (.int s0), none]) (st' := []) bf159_30 bf159_32 rfl rfl).trans ?_
  refine (bu (ls'' := [some (.ref l0), some (.ref l1), some (.int l2), some (.int l3), some (.int l4), some (.int l5), some (.int l6), some (.int s0), none]) (st' := [.int l5]) bf159_32 bf159_34 rfl rfl).trans ?_
  refine (bu (ls'' := [some (.ref l0), some (.ref l1), some (.int l2), some (.int l3), some (.int l4), some (.int l5), some (.int l6), some (.int s0), none]) (st' := [.int l6, .int l5]) bf159_34 bf159_36 rfl rfl).trans ?_
  exact bkS bf159_36 bf159_39 rfl (by decide +kernel) (Nat.le_of_ble_eq_true rfl) rfl (bhd rfl)
theorem bk159_39 {w : am_Wd} {l0 : Nat} {l1 : Nat} {l2 : Int32} {l3 : Int32} {l4 : Int32} {l5 : Int32} {l6 : Int32} {l7 : Int32} {s0 : Int32} : am_run 159 39 [some (.ref l0), some (.ref l1), some (.int l2), some (.int l3), some (.int l4), some (.int l5), some (.int l6), some (.int l7), none] [.int s0] w = if s0 = (-1 : Int32) then am_run 159 97 [some (.ref l0), some (.ref l1), some (.int l2), some (.int l3), some (.int l4), some (.int l5), some (.int l6), none, none] [] w else am_run 159 43 [some (.ref l0), some (.ref l1), some (.int l2), some (.int l3), some (.int l4), some (.int l5), some (.int l6), some (.int l7), none] [] w := by
  refine (bu (ls'' := [some (.ref l0), some (.ref l1), some (.int l2), some (.int l3), some (.int l4), some (.int l5), some (.int l6), some (.int l7), none]) (st' := [.int (-1 : Int32), .int s0]) bf159_39 bf159_40 rfl rfl).trans ?_
  exact bic bf159_40 rfl bf159_97 bf159_43 rfl rfl rfl
theorem bk159_97 {w : am_Wd} {l0 : Nat} {l1 : Nat} {l2 : Int32} {l3 : Int32} {l4 : Int32} {l5 : Int32} {l6 : Int32} : am_run 159 97 [some (.ref l0), some (.ref l1), some (.int l2), some (.int l3), some (.int l4), some (.int l5), some (.int l6), none, none] [] w = am_run 159 16 [some (.ref l0), some (.ref l1), some (.int l2), some (.int l3), some (.int l4), some (.int l5), some (.int (l6 + (nI 1))), none, none] [] w := by
  refine (bu (ls'' := [some (.ref l0), some (.ref l1), some (.int l2), some (.int l3), some (.int l4), some (.int l5), some (.int (l6 + (nI 1))), none, none]) (st' := []) bf159_97 bf159_100 rfl rfl).trans ?_
  refine (bu (ls'' := [some (.ref l0), some (.ref l1), some (.int l2), some (.int l3), some (.int l4), some (.int l5), some (.int (l6 + (nI 1))), none, none]) (st' := []) bf159_100 bf159_16 rfl rfl).trans ?_
  rfl
theorem bk159_43 {w : am_Wd} {l0 : Nat} {l1 : Nat} {l2 : Int32} {l3 : Int32} {l4 : Int32} {l5 : Int32} {l6 : Int32} {l7 : Int32} : am_run 159 43 [some (.ref l0), some (.ref l1), some (.int l2), some (.int l3), some (.int l4), some (.int l5), some (.int l6), some (.int l7), none] [] w = if l7 = nI 0 then am_run 159 97 [some (.ref l0), some (.ref l1), some (.int l2), some (.int l3), some (.int l4), some (.int l5), some (.int l6), none, none] [] w else am_run 159 48 [some (.ref l0), some (.ref l1), some (.int l2), some (.int l3), some (.int l4), some (.int l5), some (.int l6), some (.int l7), none] [] w := by
  refine (bu (ls'' := [some (.ref l0), some (.ref l1), some (.int l2), some (.int l3), some (.int l4), some (.int l5), some (.int l6), some (.int l7), none]) (st' := [.int l7]) bf159_43 bf159_45 rfl rfl).trans ?_
  exact bifc bf159_45 rfl bf159_97 bf159_48 rfl rfl rfl
theorem bk159_48 {w : am_Wd} {l0 : Nat} {l1 : Nat} {l2 : Int32} {l3 : Int32} {l4 : Int32} {l5 : Int32} {l6 : Int32} {l7 : Int32} : am_run 159 48 [some (.ref l0), some (.ref l1), some (.int l2), some (.int l3), some (.int l4), some (.int l5), some (.int l6), some (.int l7), none] [] w = (am_kf w l0 5).bind fun _ => (am_x 126 [.ref l0, .int l5, .int l6, .int l3] w).bind fun r => bct r fun v w' => am_run 159 57 [some (.ref l0), some (.ref l1), some (.int l2), some (.int l3), some (.int l4), some (.int l5), some (.int l6), some (.int l7), none] (v.toList ++ []) w' := by
  refine (bu (ls'' := [some (.ref l0), some (.ref l1), some (.int l2), some (.int l3), some (.int l4), some (.int l5), some (.int l6), some (.int l7), none]) (st' := [.ref l0]) bf159_48 bf159_49 rfl rfl).trans ?_
  refine (bu (ls'' := [some (.ref l0), some (.ref l1), some (.int l2), some (.int l3), some (.int l4), some (.int l5), some (.int l6), some (.int l7), none]) (st' := [.int l5, .ref l0]) bf159_49 bf159_51 rfl rfl).trans ?_
  refine (bu (ls'' := [some (.ref l0), some (.ref l1), some (.int l2), some (.int l3), some (.int l4), some (.int l5), some (.int l6), some (.int l7), none]) (st' := [.int l6, .int l5, .ref l0]) bf159_51 bf159_53 rfl rfl).trans ?_
  refine (bu (ls'' := [some (.ref l0), some (.ref l1), some (.int l2), some (.int l3), some (.int l4), some (.int l5), some (.int l6), some (.int l7), none]) (st' := [.int l3, .int l6, .int l5, .ref l0]) bf159_53 bf159_54 rfl rfl).trans ?_
  exact bkV bf159_54 bf159_57 rfl (by decide +kernel) (Nat.le_of_ble_eq_true rfl) rfl (bhd rfl)
theorem bk159_57 {w : am_Wd} {l0 : Nat} {l1 : Nat} {l2 : Int32} {l3 : Int32} {l4 : Int32} {l5 : Int32} {l6 : Int32} {l7 : Int32} {s0 : Int32} : am_run 159 57 [some (.ref l0), some (.ref l1), some (.int l2), some (.int l3), some (.int l4), some (.int l5), some (.int l6), some (.int l7), none] [.int s0] w = if ¬ l7 = (nI 2) then am_run 159 67 [some (.ref l0), some (.ref l1), some (.int l2), some (.int l3), some (.int l4), some (.int l5), some (.int l6), none, none] [.int s0] w else am_run 159 63 [some (.ref l0), some (.ref l1), some (.int l2), some (.int l3), some (.int l4), some (.int l5), some (.int l6), none, none] [.int s0] w := by
  refine (bu (ls'' := [some (.ref l0), some (.ref l1), some (.int l2), some (.int l3), some (.int l4), some (.int l5), some (.int l6), none, none]) (st' := [.int l7, .int s0]) bf159_57 bf159_59 rfl rfl).trans ?_
  refine (bu (ls'' := [some (.ref l0), some (.ref l1), some (.int l2), some (.int l3), some (.int l4), some (.int l5), some (.int l6), none, none]) (st' := [.int (nI 2), .int l7, .int s0]) bf159_59 bf159_60 rfl rfl).trans ?_
  exact bic bf159_60 rfl bf159_67 bf159_63 rfl rfl rfl
theorem bk159_67 {w : am_Wd} {l0 : Nat} {l1 : Nat} {l2 : Int32} {l3 : Int32} {l4 : Int32} {l5 : Int32} {l6 : Int32} {s0 : Int32} : am_run 159 67 [some (.ref l0), some (.ref l1), some (.int l2), some (.int l3), some (.int l4), some (.int l5), some (.int l6), none, none] [.int s0] w = am_run 159 68 [some (.ref l0), some (.ref l1), some (.int l2), some (.int l3), some (.int l4), some (.int l5), some (.int l6), none, none] [.int (nI 0), .int s0] w := by
  refine (bu (ls'' := [some (.ref l0), some (.ref l1), some (.int l2), some (.int l3), some (.int l4), some (.int l5), some (.int l6), none, none]) (st' := [.int (nI 0), .int s0]) bf159_67 bf159_68 rfl rfl).trans ?_
  rfl
theorem bk159_63 {w : am_Wd} {l0 : Nat} {l1 : Nat} {l2 : Int32} {l3 : Int32} {l4 : Int32} {l5 : Int32} {l6 : Int32} {s0 : Int32} : am_run 159 63 [some (.ref l0), some (.ref l1), some (.int l2), some (.int l3), some (.int l4), some (.int l5), some (.int l6), none, none] [.int s0] w = am_run 159 68 [some (.ref l0), some (.ref l1), some (.int l2), some (.int l3), some (.int l4), some (.int l5), some (.int l6), none, none] [.int (nI 1), .int s0] w := by
  refine (bu (ls'' := [some (.ref l0), some (.ref l1), some (.int l2), some (.int l3), some (.int l4), some (.int l5), some (.int l6), none, none]) (st' := [.int (nI 1), .int s0]) bf159_63 bf159_64 rfl rfl).trans ?_
  refine (bu (ls'' := [some (.ref l0), some (.ref l1), some (.int l2), some (.int l3), some (.int l4), some (.int l5), some (.int l6), none, none]) (st' := [.int (nI 1), .int s0]) bf159_64 bf159_68 rfl rfl).trans ?_
  rfl
theorem bk159_68 {w : am_Wd} {l0 : Nat} {l1 : Nat} {l2 : Int32} {l3 : Int32} {l4 : Int32} {l5 : Int32} {l6 : Int32} {s0 : Int32} {s1 : Int32} : am_run 159 68 [some (.ref l0), some (.ref l1), some (.int l2), some (.int l3), some (.int l4), some (.int l5), some (.int l6), none, none] [.int s0, .int s1] w = if ¬ s1 = s0 then am_run 159 75 [some (.ref l0), some (.ref l1), some (.int l2), some (.int l3), some (.int l4), some (.int l5), some (.int l6), none, none] [] w else am_run 159 71 [some (.ref l0), some (.ref l1), some (.int l2), some (.int l3), some (.int l4), some (.int l5), some (.int l6), none, none] [] w := by
  exact bic bf159_68 rfl bf159_75 bf159_71 rfl rfl rfl
theorem bk159_75 {w : am_Wd} {l0 : Nat} {l1 : Nat} {l2 : Int32} {l3 : Int32} {l4 : Int32} {l5 : Int32} {l6 : Int32} : am_run 159 75 [some (.ref l0), some (.ref l1), some (.int l2), some (.int l3), some (.int l4), some (.int l5), some (.int l6), none, none] [] w = am_run 159 76 [some (.ref l0), some (.ref l1), some (.int l2), some (.int l3), some (.int l4), some (.int l5), some (.int l6), none, none] [.int (nI 0)] w := by
  refine (bu (ls'' := [some (.ref l0), some (.ref l1), some (.int l2), some (.int l3), some (.int l4), some (.int l5), some (.int l6), none, none]) (st' := [.int (nI 0)]) bf159_75 bf159_76 rfl rfl).trans ?_
  rfl
theorem bk159_71 {w : am_Wd} {l0 : Nat} {l1 : Nat} {l2 : Int32} {l3 : Int32} {l4 : Int32} {l5 : Int32} {l6 : Int32} : am_run 159 71 [some (.ref l0), some (.ref l1), some (.int l2), some (.int l3), some (.int l4), some (.int l5), some (.int l6), none, none] [] w = am_run 159 76 [some (.ref l0), some (.ref l1), some (.int l2), some (.int l3), some (.int l4), some (.int l5), some (.int l6), none, none] [.int (nI 1)] w := by
  refine (bu (ls'' := [some (.ref l0), some (.ref l1), some (.int l2), some (.int l3), some (.int l4), some (.int l5), some (.int l6), none, none]) (st' := [.int (nI 1)]) bf159_71 bf159_72 rfl rfl).trans ?_
  refine (bu (ls'' := [some (.ref l0), some (.ref l1), some (.int l2), some (.int l3), some (.int l4), some (.int l5), some (.int l6), none, none]) (st' := [.int (nI 1)]) bf159_72 bf159_76 rfl rfl).trans ?_
  rfl
theorem bk159_76 {w : am_Wd} {l0 : Nat} {l1 : Nat} {l2 : Int32} {l3 : Int32} {l4 : Int32} {l5 : Int32} {l6 : Int32} {s0 : Int32} : am_run 159 76 [some (.ref l0), some (.ref l1), some (.int l2), some (.int l3), some (.int l4), some (.int l5), some (.int l6), none, none] [.int s0] w = if ¬ s0 = l2 then am_run 159 90 [some (.ref l0), some (.ref l1), some (.int l2), some (.int l3), none, some (.int l5), some (.int l6), none, none] [.int l4] w else am_run 159 86 [some (.ref l0), some (.ref l1), some (.int l2), some (.int l3), none, some (.int l5), some (.int l6), none, none] [.int l4] w := by
  refine (bu (ls'' := [some (.ref l0), some (.ref l1), some (.int l2), some (.int l3), some (.int l4), some (.int l5), some (.int l6), none, some (.int s0)]) (st' := []) bf159_76 bf159_78 rfl rfl).trans ?_
  refine (bu (ls'' := [some (.ref l0), some (.ref l1), some (.int l2), some (.int l3), none, some (.int l5), some (.int l6), none, some (.int s0)]) (st' := [.int l4]) bf159_78 bf159_80 rfl rfl).trans ?_
  refine (bu (ls'' := [some (.ref l0), some (.ref l1), some (.int l2), some (.int l3), none, some (.int l5), some (.int l6), none, none]) (st' := [.int s0, .int l4]) bf159_80 bf159_82 rfl rfl).trans ?_
  refine (bu (ls'' := [some (.ref l0), some (.ref l1), some (.int l2), some (.int l3), none, some (.int l5), some (.int l6), none, none]) (st' := [.int l2, .int s0, .int l4]) bf159_82 bf159_83 rfl rfl).trans ?_
  exact bic bf159_83 rfl bf159_90 bf159_86 rfl rfl rfl
theorem bk159_90 {w : am_Wd} {l0 : Nat} {l1 : Nat} {l2 : Int32} {l3 : Int32} {l5 : Int32} {l6 : Int32} {s0 : Int32} : am_run 159 90 [some (.ref l0), some (.ref l1), some (.int l2), some (.int l3), none, some (.int l5), some (.int l6), none, none] [.int s0] w = am_run 159 91 [some (.ref l0), some (.ref l1), some (.int l2), some (.int l3), none, some (.int l5), some (.int l6), none, none] [.int (nI 0), .int s0] w := by
  refine (bu (ls'' := [some (.ref l0), some (.ref l1), some (.int l2), some (.int l3), none, some (.int l5), some (.int l6), none, none]) (st' := [.int (nI 0), .int s0]) bf159_90 bf159_91 rfl rfl).trans ?_
  rfl
theorem bk159_86 {w : am_Wd} {l0 : Nat} {l1 : Nat} {l2 : Int32} {l3 : Int32} {l5 : Int32} {l6 : Int32} {s0 : Int32} : am_run 159 86 [some (.ref l0), some (.ref l1), some (.int l2), some (.int l3), none, some (.int l5), some (.int l6), none, none] [.int s0] w = am_run 159 91 [some (.ref l0), some (.ref l1), some (.int l2), some (.int l3), none, some (.int l5), some (.int l6), none, none] [.int (nI 1), .int s0] w := by
  refine (bu (ls'' := [some (.ref l0), some (.ref l1), some (.int l2), some (.int l3), none, some (.int l5), some (.int l6), none, none]) (st' := [.int (nI 1), .int s0]) bf159_86 bf159_87 rfl rfl).trans ?_
  refine (bu (ls'' := [some (.ref l0), some (.ref l1), some (.int l2), some (.int l3), none, some (.int l5), some (.int l6), none, none]) (st' := [.int (nI 1), .int s0]) bf159_87 bf159_91 rfl rfl).trans ?_
  rfl
theorem bk159_91 {w : am_Wd} {l0 : Nat} {l1 : Nat} {l2 : Int32} {l3 : Int32} {l5 : Int32} {l6 : Int32} {s0 : Int32} {s1 : Int32} : am_run 159 91 [some (.ref l0), some (.ref l1), some (.int l2), some (.int l3), none, some (.int l5), some (.int l6), none, none] [.int s0, .int s1] w = (am_x 26 [.int s0] w).bind fun r => bct r fun v w' => am_run 159 94 [some (.ref l0), some (.ref l1), some (.int l2), some (.int l3), none, some (.int l5), some (.int l6), none, none] (v.toList ++ [.int s1]) w' := by
  exact bkS bf159_91 bf159_94 rfl (by decide +kernel) (Nat.le_of_ble_eq_true rfl) rfl (bhd rfl)
theorem bk159_94 {w : am_Wd} {l0 : Nat} {l1 : Nat} {l2 : Int32} {l3 : Int32} {l5 : Int32} {l6 : Int32} {s0 : Int32} {s1 : Int32} : am_run 159 94 [some (.ref l0), some (.ref l1), some (.int l2), some (.int l3), none, some (.int l5), some (.int l6), none, none] [.int s0, .int s1] w = am_run 159 97 [some (.ref l0), some (.ref l1), some (.int l2), some (.int l3), some (.int (s1 + s0)), some (.int l5), some (.int l6), none, none] [] w := by
  refine (bu (ls'' := [some (.ref l0), some (.ref l1), some (.int l2), some (.int l3), none, some (.int l5), some (.int l6), none, none]) (st' := [.int (s1 + s0)]) bf159_94 bf159_95 rfl rfl).trans ?_
  refine (bu (ls'' := [some (.ref l0), some (.ref l1), some (.int l2), some (.int l3), some (.int (s1 + s0)), some (.int l5), some (.int l6), none, none]) (st' := []) bf159_95 bf159_97 rfl rfl).trans ?_
  rfl
theorem bf160_0 : am_fetch (am_mth 160) 0 = some (.aload_n 0, 1, [], [2]) := by decide +kernel
theorem bf160_1 : am_fetch (am_mth 160) 1 = some (.getfield 21, 3, [0, 6, 2, 614], [2]) := by decide +kernel
theorem bf160_4 : am_fetch (am_mth 160) 4 = some (.invokevirtual 64, 3, [0, 118, 0, 4, 380, 381, 382, 65], [2]) := by decide +kernel
theorem bf160_7 : am_fetch (am_mth 160) 7 = some (.istore_n 2, 1, [], [2]) := by decide +kernel
theorem bf160_8 : am_fetch (am_mth 160) 8 = some (.iload_n 2, 1, [], []) := by decide +kernel
theorem bf160_9 : am_fetch (am_mth 160) 9 = some (.iconst (-1), 1, [], []) := by decide +kernel
theorem bf160_10 : am_fetch (am_mth 160) 10 = some (.if_icmp .eq 17, 3, [], []) := by decide +kernel
theorem bf160_13 : am_fetch (am_mth 160) 13 = some (.aload_n 0, 1, [], []) := by decide +kernel
theorem bf160_14 : am_fetch (am_mth 160) 14 = some (.getfield 12, 3, [0, 6, 1, 612], []) := by decide +kernel
theorem bf160_17 : am_fetch (am_mth 160) 17 = some (.iload_n 2, 1, [], []) := by decide +kernel
theorem bf160_18 : am_fetch (am_mth 160) 18 = some (.iconst 4, 1, [], []) := by decide +kernel
theorem bf160_19 : am_fetch (am_mth 160) 19 = some (.idiv, 1, [], []) := by decide +kernel
theorem bf160_20 : am_fetch (am_mth 160) 20 = some (.iload_n 2, 1, [], []) := by decide +kernel
theorem bf160_21 : am_fetch (am_mth 160) 21 = some (.iconst 4, 1, [], [2]) := by decide +kernel
theorem bf160_22 : am_fetch (am_mth 160) 22 = some (.irem, 1, [], [2]) := by decide +kernel
theorem bf160_23 : am_fetch (am_mth 160) 23 = some (.iload_n 1, 1, [], [2]) := by decide +kernel
theorem bf160_24 : am_fetch (am_mth 160) 24 = some (.invokevirtual 67, 3, [0, 82, 3, 7, 695, 696, 697, 64], [2]) := by decide +kernel
theorem bf160_27 : am_fetch (am_mth 160) 27 = some (.aload_n 0, 1, [], [2]) := by decide +kernel
theorem bf160_28 : am_fetch (am_mth 160) 28 = some (.getfield 21, 3, [0, 6, 2, 614], [2]) := by decide +kernel
theorem bf160_31 : am_fetch (am_mth 160) 31 = some (.iload_n 1, 1, [], [2]) := by decide +kernel
theorem bf160_32 : am_fetch (am_mth 160) 32 = some (.aload_n 0, 1, [], [1, 2]) := by decide +kernel
theorem bf160_33 : am_fetch (am_mth 160) 33 = some (.getfield 12, 3, [0, 6, 1, 612], [1, 2]) := by decide +kernel
theorem bf160_36 : am_fetch (am_mth 160) 36 = some (.invokevirtual 71, 3, [0, 119, 2, 4, 704, 705, 706, 65], [1, 2]) := by decide +kernel
theorem bf160_39 : am_fetch (am_mth 160) 39 = some (.aload_n 0, 1, [], [1, 2]) := by decide +kernel
theorem bf160_40 : am_fetch (am_mth 160) 40 = some (.invokevirtual 75, 3, [0, 129, 0, 6, 708, 710, 14, 63], [0, 1, 2]) := by decide +kernel
theorem bf160_43 : am_fetch (am_mth 160) 43 = some (.return_, 1, [], [0, 1, 2]) := by decide +kernel
theorem bk160_0 {w : am_Wd} {l0 : Nat} {l1 : Int32} : am_run 160 0 [some (.ref l0), some (.int l1), none] [] w = (am_gf w l0 6 2).bind fun v => am_run 160 4 [some (.ref l0), some (.int l1), none] (v :: []) w := by
  refine (bu (ls'' := [some (.ref l0), some (.int l1), none]) (st' := [.ref l0]) bf160_0 bf160_1 rfl rfl).trans ?_
  exact bh bf160_1 bf160_4 rfl (fun _ _ => am_ge_rf w) rfl
theorem bk160_4 {w : am_Wd} {l0 : Nat} {l1 : Int32} {s0 : Nat} : am_run 160 4 [some (.ref l0), some (.int l1), none] [.ref s0] w = (am_kf w s0 4).bind fun _ => (am_x 118 [.ref s0] w).bind fun r => bct r fun v w' => am_run 160 7 [some (.ref l0), some (.int l1), none] (v.toList ++ []) w' := by
  exact bkV bf160_4 bf160_7 rfl (by decide +kernel) (Nat.le_of_ble_eq_true rfl) rfl (bhd rfl)
theorem bk160_7 {w : am_Wd} {l0 : Nat} {l1 : Int32} {s0 : Int32} : am_run 160 7 [some (.ref l0), some (.int l1), none] [.int s0] w = if s0 = (-1 : Int32) then am_run 160 27 [some (.ref l0), some (.int l1), none] [] w else am_run 160 13 [some (.ref l0), some (.int l1), some (.int s0)] [] w := by
  refine (bu (ls'' := [some (.ref l0), some (.int l1), some (.int s0)]) (st' := []) bf160_7 bf160_8 rfl rfl).trans ?_
  refine (bu (ls'' := [some (.ref l0), some (.int l1), some (.int s0)]) (st' := [.int s0]) bf160_8 bf160_9 rfl rfl).trans ?_
  refine (bu (ls'' := [some (.ref l0), some (.int l1), some (.int s0)]) (st' := [.int (-1 : Int32), .int s0]) bf160_9 bf160_10 rfl rfl).trans ?_
  exact bic bf160_10 rfl bf160_27 bf160_13 rfl rfl rfl
theorem bk160_27 {w : am_Wd} {l0 : Nat} {l1 : Int32} : am_run 160 27 [some (.ref l0), some (.int l1), none] [] w = (am_gf w l0 6 2).bind fun v => am_run 160 31 [some (.ref l0), some (.int l1), none] (v :: []) w := by
  refine (bu (ls'' := [some (.ref l0), some (.int l1), none]) (st' := [.ref l0]) bf160_27 bf160_28 rfl rfl).trans ?_
  exact bh bf160_28 bf160_31 rfl (fun _ _ => am_ge_rf w) rfl
theorem bk160_13 {w : am_Wd} {l0 : Nat} {l1 : Int32} {l2 : Int32} : am_run 160 13 [some (.ref l0), some (.int l1), some (.int l2)] [] w = (am_gf w l0 6 1).bind fun v => am_run 160 17 [some (.ref l0), some (.int l1), some (.int l2)] (v :: []) w := by
  refine (bu (ls'' := [some (.ref l0), some (.int l1), some (.int l2)]) (st' := [.ref l0]) bf160_13 bf160_14 rfl rfl).trans ?_
  exact bh bf160_14 bf160_17 rfl (fun _ _ => am_ge_rf w) rfl
theorem bk160_31 {w : am_Wd} {l0 : Nat} {l1 : Int32} {s0 : Nat} : am_run 160 31 [some (.ref l0), some (.int l1), none] [.ref s0] w = (am_gf w l0 6 1).bind fun v => am_run 160 36 [some (.ref l0), none, none] (v :: [.int l1, .ref s0]) w := by
  refine (bu (ls'' := [some (.ref l0), none, none]) (st' := [.int l1, .ref s0]) bf160_31 bf160_32 rfl rfl).trans ?_
  refine (bu (ls'' := [some (.ref l0), none, none]) (st' := [.ref l0, .int l1, .ref s0]) bf160_32 bf160_33 rfl rfl).trans ?_
  exact bh bf160_33 bf160_36 rfl (fun _ _ => am_ge_rf w) rfl
theorem bk160_17 {w : am_Wd} {l0 : Nat} {l1 : Int32} {l2 : Int32} {s0 : Nat} : am_run 160 17 [some (.ref l0), some (.int l1), some (.int l2)] [.ref s0] w = (am_kf w s0 7).bind fun _ => (am_x 82 [.ref s0, .int (l2 / (nI 4)), .int (bj_irem l2 (nI 4)), .int l1] w).bind fun r => bct r fun v w' => am_run 160 27 [some (.ref l0), some (.int l1), none] (v.toList ++ []) w' := by
  refine (bu (ls'' := [some (.ref l0), some (.int l1), some (.int l2)]) (st' := [.int l2, .ref s0]) bf160_17 bf160_18 rfl rfl).trans ?_
  refine (bu (ls'' := [some (.ref l0), some (.int l1), some (.int l2)]) (st' := [.int (nI 4), .int l2, .ref s0]) bf160_18 bf160_19 rfl rfl).trans ?_
  refine (bu (ls'' := [some (.ref l0), some (.int l1), some (.int l2)]) (st' := [.int (l2 / (nI 4)), .ref s0]) bf160_19 bf160_20 rfl rfl).trans ?_
  refine (bu (ls'' := [some (.ref l0), some (.int l1), none]) (st' := [.int l2, .int (l2 / (nI 4)), .ref s0]) bf160_20 bf160_21 rfl rfl).trans ?_
  refine (bu (ls'' := [some (.ref l0), some (.int l1), none]) (st' := [.int (nI 4), .int l2, .int (l2 / (nI 4)), .ref s0]) bf160_21 bf160_22 rfl rfl).trans ?_
  refine (bu (ls'' := [some (.ref l0), some (.int l1), none]) (st' := [.int (bj_irem l2 (nI 4)), .int (l2 / (nI 4)), .ref s0]) bf160_22 bf160_23 rfl rfl).trans ?_
  refine (bu (ls'' := [some (.ref l0), some (.int l1), none]) (st' := [.int l1, .int (bj_irem l2 (nI 4)), .int (l2 / (nI 4)), .ref s0]) bf160_23 bf160_24 rfl rfl).trans ?_
  exact bkV bf160_24 bf160_27 rfl (by decide +kernel) (Nat.le_of_ble_eq_true rfl) rfl (bhd rfl)
theorem bk160_36 {w : am_Wd} {l0 : Nat} {s0 : Nat} {s1 : Int32} {s2 : Nat} : am_run 160 36 [some (.ref l0), none, none] [.ref s0, .int s1, .ref s2] w = (am_kf w s2 4).bind fun _ => (am_x 119 [.ref s2, .int s1, .ref s0] w).bind fun r => bct r fun v w' => am_run 160 39 [some (.ref l0), none, none] (v.toList ++ []) w' := by
  exact bkV bf160_36 bf160_39 rfl (by decide +kernel) (Nat.le_of_ble_eq_true rfl) rfl (bhd rfl)
theorem bk160_39 {w : am_Wd} {l0 : Nat} : am_run 160 39 [some (.ref l0), none, none] [] w = (am_kf w l0 6).bind fun _ => (am_x 129 [.ref l0] w).bind fun r => bct r fun v w' => am_run 160 43 [none, none, none] (v.toList ++ []) w' := by
  refine (bu (ls'' := [none, none, none]) (st' := [.ref l0]) bf160_39 bf160_40 rfl rfl).trans ?_
  exact bkV bf160_40 bf160_43 rfl (by decide +kernel) (Nat.le_of_ble_eq_true rfl) rfl (bhd rfl)
theorem bk160_43 {w : am_Wd}  : am_run 160 43 [none, none, none] [] w = some (.inl none, w) := by
  exact am_e2 bf160_43 rfl (am_ge_rf w)
theorem bf161_0 : am_fetch (am_mth 161) 0 = some (.aload_n 0, 1, [], [2, 3]) := by decide +kernel
theorem bf161_1 : am_fetch (am_mth 161) 1 = some (.getfield 21, 3, [0, 6, 2, 614], [2, 3]) := by decide +kernel
theorem bf161_4 : am_fetch (am_mth 161) 4 = some (.invokevirtual 64, 3, [0, 118, 0, 4, 380, 381, 382, 65], [2, 3]) := by decide +kernel
theorem bf161_7 : am_fetch (am_mth 161) 7 = some (.istore_n 2, 1, [], [2, 3]) := by decide +kernel
theorem bf161_8 : am_fetch (am_mth 161) 8 = some (.iload_n 2, 1, [], [3]) := by decide +kernel
theorem bf161_9 : am_fetch (am_mth 161) 9 = some (.iconst (-1), 1, [], [3]) := by decide +kernel
theorem bf161_10 : am_fetch (am_mth 161) 10 = some (.if_icmp .eq 46, 3, [], [3]) := by decide +kernel
theorem bf161_13 : am_fetch (am_mth 161) 13 = some (.iconst 0, 1, [], [3]) := by decide +kernel
theorem bf161_14 : am_fetch (am_mth 161) 14 = some (.istore_n 3, 1, [], [3]) := by decide +kernel
theorem bf161_15 : am_fetch (am_mth 161) 15 = some (.iload_n 3, 1, [], []) := by decide +kernel
theorem bf161_16 : am_fetch (am_mth 161) 16 = some (.iconst 3, 1, [], []) := by decide +kernel
theorem bf161_17 : am_fetch (am_mth 161) 17 = some (.if_icmp .ge 39, 3, [], []) := by decide +kernel
theorem bf161_20 : am_fetch (am_mth 161) 20 = some (.aload_n 0, 1, [], []) := by decide +kernel
theorem bf161_21 : am_fetch (am_mth 161) 21 = some (.getfield 12, 3, [0, 6, 1, 612], []) := by decide +kernel
theorem bf161_24 : am_fetch (am_mth 161) 24 = some (.iload_n 2, 1, [], []) := by decide +kernel
theorem bf161_25 : am_fetch (am_mth 161) 25 = some (.iconst 4, 1, [], []) := by decide +kernel
theorem bf161_26 : am_fetch (am_mth 161) 26 = some (.idiv, 1, [], []) := by decide +kernel
theorem bf161_27 : am_fetch (am_mth 161) 27 = some (.iload_n 2, 1, [], []) := by decide +kernel
theorem bf161_28 : am_fetch (am_mth 161) 28 = some (.iconst 4, 1, [], []) := by decide +kernel
theorem bf161_29 : am_fetch (am_mth 161) 29 = some (.irem, 1, [], []) := by decide +kernel
theorem bf161_30 : am_fetch (am_mth 161) 30 = some (.iload_n 3, 1, [], []) := by decide +kernel
theorem bf161_31 : am_fetch (am_mth 161) 31 = some (.invokestatic 78, 3, [0, 15, 2, 752, 457, 57], []) := by decide +kernel
theorem bf161_34 : am_fetch (am_mth 161) 34 = some (.iload_n 1, 1, [], []) := by decide +kernel
theorem bf161_35 : am_fetch (am_mth 161) 35 = some (.iload_n 3, 1, [], []) := by decide +kernel
theorem bf161_36 : am_fetch (am_mth 161) 36 = some (.iushr, 1, [], []) := by decide +kernel
theorem bf161_37 : am_fetch (am_mth 161) 37 = some (.iconst 1, 1, [], []) := by decide +kernel
theorem bf161_38 : am_fetch (am_mth 161) 38 = some (.iand, 1, [], []) := by decide +kernel
theorem bf161_39 : am_fetch (am_mth 161) 39 = some (.ifCond .eq 7, 3, [], []) := by decide +kernel
theorem bf161_42 : am_fetch (am_mth 161) 42 = some (.iconst 1, 1, [], []) := by decide +kernel
theorem bf161_43 : am_fetch (am_mth 161) 43 = some (.goto 4, 3, [], []) := by decide +kernel
theorem bf161_46 : am_fetch (am_mth 161) 46 = some (.iconst 0, 1, [], []) := by decide +kernel
theorem bf161_47 : am_fetch (am_mth 161) 47 = some (.invokevirtual 67, 3, [0, 82, 3, 7, 695, 696, 697, 64], []) := by decide +kernel
theorem bf161_50 : am_fetch (am_mth 161) 50 = some (.iinc 3 1, 3, [], []) := by decide +kernel
theorem bf161_53 : am_fetch (am_mth 161) 53 = some (.goto (-38), 3, [], []) := by decide +kernel
theorem bf161_56 : am_fetch (am_mth 161) 56 = some (.aload_n 0, 1, [], [2, 3]) := by decide +kernel
theorem bf161_57 : am_fetch (am_mth 161) 57 = some (.getfield 21, 3, [0, 6, 2, 614], [2, 3]) := by decide +kernel
theorem bf161_60 : am_fetch (am_mth 161) 60 = some (.iload_n 1, 1, [], [2, 3]) := by decide +kernel
theorem bf161_61 : am_fetch (am_mth 161) 61 = some (.aload_n 0, 1, [], [1, 2, 3]) := by decide +kernel
theorem bf161_62 : am_fetch (am_mth 161) 62 = some (.getfield 12, 3, [0, 6, 1, 612], [1, 2, 3]) := by decide +kernel
theorem bf161_65 : am_fetch (am_mth 161) 65 = some (.invokevirtual 81, 3, [0, 120, 2, 4, 753, 754, 755, 65], [1, 2, 3]) := by decide +kernel
theorem bf161_68 : am_fetch (am_mth 161) 68 = some (.aload_n 0, 1, [], [1, 2, 3]) := by decide +kernel
theorem bf161_69 : am_fetch (am_mth 161) 69 = some (.invokevirtual 75, 3, [0, 129, 0, 6, 708, 710, 14, 63], [0, 1, 2, 3]) := by decide +kernel
theorem bf161_72 : am_fetch (am_mth 161) 72 = some (.return_, 1, [], [0, 1, 2, 3]) := by decide +kernel
theorem bk161_0 {w : am_Wd} {l0 : Nat} {l1 : Int32} : am_run 161 0 [some (.ref l0), some (.int l1), none, none] [] w = (am_gf w l0 6 2).bind fun v => am_run 161 4 [some (.ref l0), some (.int l1), none, none] (v :: []) w := by
  refine (bu (ls'' := [some (.ref l0), some (.int l1), none, none]) (st' := [.ref l0]) bf161_0 bf161_1 rfl rfl).trans ?_
  exact bh bf161_1 bf161_4 rfl (fun _ _ => am_ge_rf w) rfl
theorem bk161_4 {w : am_Wd} {l0 : Nat} {l1 : Int32} {s0 : Nat} : am_run 161 4 [some (.ref l0), some (.int l1), none, none] [.ref s0] w = (am_kf w s0 4).bind fun _ => (am_x 118 [.ref s0] w).bind fun r => bct r fun v w' => am_run 161 7 [some (.ref l0), some (.int l1), none, none] (v.toList ++ []) w' := by
  exact bkV bf161_4 bf161_7 rfl (by decide +kernel) (Nat.le_of_ble_eq_true rfl) rfl (bhd rfl)
theorem bk161_7 {w : am_Wd} {l0 : Nat} {l1 : Int32} {s0 : Int32} : am_run 161 7 [some (.ref l0), some (.int l1), none, none] [.int s0] w = if s0 = (-1 : Int32) then am_run 161 56 [some (.ref l0), some (.int l1), none, none] [] w else am_run 161 13 [some (.ref l0), some (.int l1), some (.int s0), none] [] w := by
  refine (bu (ls'' := [some (.ref l0), some (.int l1), some (.int s0), none]) (st' := []) bf161_7 bf161_8 rfl rfl).trans ?_
  refine (bu (ls'' := [some (.ref l0), some (.int l1), some (.int s0), none]) (st' := [.int s0]) bf161_8 bf161_9 rfl rfl).trans ?_
  refine (bu (ls'' := [some (.ref l0), some (.int l1), some (.int s0), none]) (st' := [.int (-1 : Int32), .int s0]) bf161_9 bf161_10 rfl rfl).trans ?_
  exact bic bf161_10 rfl bf161_56 bf161_13 rfl rfl rfl
theorem bk161_56 {w : am_Wd} {l0 : Nat} {l1 : Int32} : am_run 161 56 [some (.ref l0), some (.int l1), none, none] [] w = (am_gf w l0 6 2).bind fun v => am_run 161 60 [some (.ref l0), some (.int l1), none, none] (v :: []) w := by
  refine (bu (ls'' := [some (.ref l0), some (.int l1), none, none]) (st' := [.ref l0]) bf161_56 bf161_57 rfl rfl).trans ?_
  exact bh bf161_57 bf161_60 rfl (fun _ _ => am_ge_rf w) rfl
theorem bk161_13 {w : am_Wd} {l0 : Nat} {l1 : Int32} {l2 : Int32} : am_run 161 13 [some (.ref l0), some (.int l1), some (.int l2), none] [] w = am_run 161 15 [some (.ref l0), some (.int l1), some (.int l2), some (.int (nI 0))] [] w := by
  refine (bu (ls'' := [some (.ref l0), some (.int l1), some (.int l2), none]) (st' := [.int (nI 0)]) bf161_13 bf161_14 rfl rfl).trans ?_
  refine (bu (ls'' := [some (.ref l0), some (.int l1), some (.int l2), some (.int (nI 0))]) (st' := []) bf161_14 bf161_15 rfl rfl).trans ?_
  rfl
theorem bk161_60 {w : am_Wd} {l0 : Nat} {l1 : Int32} {s0 : Nat} : am_run 161 60 [some (.ref l0), some (.int l1), none, none] [.ref s0] w = (am_gf w l0 6 1).bind fun v => am_run 161 65 [some (.ref l0), none, none, none] (v :: [.int l1, .ref s0]) w := by
  refine (bu (ls'' := [some (.ref l0), none, none, none]) (st' := [.int l1, .ref s0]) bf161_60 bf161_61 rfl rfl).trans ?_
  refine (bu (ls'' := [some (.ref l0), none, none, none]) (st' := [.ref l0, .int l1, .ref s0]) bf161_61 bf161_62 rfl rfl).trans ?_
  exact bh bf161_62 bf161_65 rfl (fun _ _ => am_ge_rf w) rfl
theorem bk161_15 {w : am_Wd} {l0 : Nat} {l1 : Int32} {l2 : Int32} {l3 : Int32} : am_run 161 15 [some (.ref l0), some (.int l1), some (.int l2), some (.int l3)] [] w = if (nI 3) ≤ l3 then am_run 161 56 [some (.ref l0), some (.int l1), none, none] [] w else am_run 161 20 [some (.ref l0), some (.int l1), some (.int l2), some (.int l3)] [] w := by
  refine (bu (ls'' := [some (.ref l0), some (.int l1), some (.int l2), some (.int l3)]) (st' := [.int l3]) bf161_15 bf161_16 rfl rfl).trans ?_
  refine (bu (ls'' := [some (.ref l0), some (.int l1), some (.int l2), some (.int l3)]) (st' := [.int (nI 3), .int l3]) bf161_16 bf161_17 rfl rfl).trans ?_
  exact bic bf161_17 rfl bf161_56 bf161_20 rfl rfl rfl
theorem bk161_65 {w : am_Wd} {l0 : Nat} {s0 : Nat} {s1 : Int32} {s2 : Nat} : am_run 161 65 [some (.ref l0), none, none, none] [.ref s0, .int s1, .ref s2] w = (am_kf w s2 4).bind fun _ => (am_x 120 [.ref s2, .int s1, .ref s0] w).bind fun r => bct r fun v w' => am_run 161 68 [some (.ref l0), none, none, none] (v.toList ++ []) w' := by
  exact bkV bf161_65 bf161_68 rfl (by decide +kernel) (Nat.le_of_ble_eq_true rfl) rfl (bhd rfl)
theorem bk161_20 {w : am_Wd} {l0 : Nat} {l1 : Int32} {l2 : Int32} {l3 : Int32} : am_run 161 20 [some (.ref l0), some (.int l1), some (.int l2), some (.int l3)] [] w = (am_gf w l0 6 1).bind fun v => am_run 161 24 [some (.ref l0), some (.int l1), some (.int l2), some (.int l3)] (v :: []) w := by
  refine (bu (ls'' := [some (.ref l0), some (.int l1), some (.int l2), some (.int l3)]) (st' := [.ref l0]) bf161_20 bf161_21 rfl rfl).trans ?_
  exact bh bf161_21 bf161_24 rfl (fun _ _ => am_ge_rf w) rfl
theorem bk161_68 {w : am_Wd} {l0 : Nat} : am_run 161 68 [some (.ref l0), none, none, none] [] w = (am_kf w l0 6).bind fun _ => (am_x 129 [.ref l0] w).bind fun r => bct r fun v w' => am_run 161 72 [none, none, none, none] (v.toList ++ []) w' := by
  refine (bu (ls'' := [none, none, none, none]) (st' := [.ref l0]) bf161_68 bf161_69 rfl rfl).trans ?_
  exact bkV bf161_69 bf161_72 rfl (by decide +kernel) (Nat.le_of_ble_eq_true rfl) rfl (bhd rfl)
theorem bk161_24 {w : am_Wd} {l0 : Nat} {l1 : Int32} {l2 : Int32} {l3 : Int32} {s0 : Nat} : am_run 161 24 [some (.ref l0), some (.int l1), some (.int l2), some (.int l3)] [.ref s0] w = (am_x 15 [.int (bj_irem l2 (nI 4)), .int l3] w).bind fun r => bct r fun v w' => am_run 161 34 [some (.ref l0), some (.int l1), some (.int l2), some (.int l3)] (v.toList ++ [.int (l2 / (nI 4)), .ref s0]) w' := by
  refine (bu (ls'' := [some (.ref l0), some (.int l1), some (.int l2), some (.int l3)]) (st' := [.int l2, .ref s0]) bf161_24 bf161_25 rfl rfl).trans ?_
  refine (bu (ls'' := [some (.ref l0), some (.int l1), some (.int l2), some (.int l3)]) (st' := [.int (nI 4), .int l2, .ref s0]) bf161_25 bf161_26 rfl rfl).trans ?_
  refine (bu (ls'' := [some (.ref l0), some (.int l1), some (.int l2), some (.int l3)]) (st' := [.int (l2 / (nI 4)), .ref s0]) bf161_26 bf161_27 rfl rfl).trans ?_
  refine (bu (ls'' := [some (.ref l0), some (.int l1), some (.int l2), some (.int l3)]) (st' := [.int l2, .int (l2 / (nI 4)), .ref s0]) bf161_27 bf161_28 rfl rfl).trans ?_
  refine (bu (ls'' := [some (.ref l0), some (.int l1), some (.int l2), some (.int l3)]) (st' := [.int (nI 4), .int l2, .int (l2 / (nI 4)), .ref s0]) bf161_28 bf161_29 rfl rfl).trans ?_
  refine (bu (ls'' := [some (.ref l0), some (.int l1), some (.int l2), some (.int l3)]) (st' := [.int (bj_irem l2 (nI 4)), .int (l2 / (nI 4)), .ref s0]) bf161_29 bf161_30 rfl rfl).trans ?_
  refine (bu (ls'' := [some (.ref l0), some (.int l1), some (.int l2), some (.int l3)]) (st' := [.int l3, .int (bj_irem l2 (nI 4)), .int (l2 / (nI 4)), .ref s0]) bf161_30 bf161_31 rfl rfl).trans ?_
  exact bkS bf161_31 bf161_34 rfl (by decide +kernel) (Nat.le_of_ble_eq_true rfl) rfl (bhd rfl)
theorem bk161_72 {w : am_Wd}  : am_run 161 72 [none, none, none, none] [] w = some (.inl none, w) := by
  exact am_e2 bf161_72 rfl (am_ge_rf w)
theorem bk161_34 {w : am_Wd} {l0 : Nat} {l1 : Int32} {l2 : Int32} {l3 : Int32} {s0 : Int32} {s1 : Int32} {s2 : Nat} : am_run 161 34 [some (.ref l0), some (.int l1), some (.int l2), some (.int l3)] [.int s0, .int s1, .ref s2] w = if ((bj_iushr l1 l3) &&& (nI 1)) = nI 0 then am_run 161 46 [some (.ref l0), some (.int l1), some (.int l2), some (.int l3)] [.int s0, .int s1, .ref s2] w else am_run 161 42 [some (.ref l0), some (.int l1), some (.int l2), some (.int l3)] [.int s0, .int s1, .ref s2] w := by
  refine (bu (ls'' := [some (.ref l0), some (.int l1), some (.int l2), some (.int l3)]) (st' := [.int l1, .int s0, .int s1, .ref s2]) bf161_34 bf161_35 rfl rfl).trans ?_
  refine (bu (ls'' := [some (.ref l0), some (.int l1), some (.int l2), some (.int l3)]) (st' := [.int l3, .int l1, .int s0, .int s1, .ref s2]) bf161_35 bf161_36 rfl rfl).trans ?_
  refine (bu (ls'' := [some (.ref l0), some (.int l1), some (.int l2), some (.int l3)]) (st' := [.int (bj_iushr l1 l3), .int s0, .int s1, .ref s2]) bf161_36 bf161_37 rfl rfl).trans ?_
  refine (bu (ls'' := [some (.ref l0), some (.int l1), some (.int l2), some (.int l3)]) (st' := [.int (nI 1), .int (bj_iushr l1 l3), .int s0, .int s1, .ref s2]) bf161_37 bf161_38 rfl rfl).trans ?_
  refine (bu (ls'' := [some (.ref l0), some (.int l1), some (.int l2), some (.int l3)]) (st' := [.int ((bj_iushr l1 l3) &&& (nI 1)), .int s0, .int s1, .ref s2]) bf161_38 bf161_39 rfl rfl).trans ?_
  exact bifc bf161_39 rfl bf161_46 bf161_42 rfl rfl rfl
theorem bk161_46 {w : am_Wd} {l0 : Nat} {l1 : Int32} {l2 : Int32} {l3 : Int32} {s0 : Int32} {s1 : Int32} {s2 : Nat} : am_run 161 46 [some (.ref l0), some (.int l1), some (.int l2), some (.int l3)] [.int s0, .int s1, .ref s2] w = am_run 161 47 [some (.ref l0), some (.int l1), some (.int l2), some (.int l3)] [.int (nI 0), .int s0, .int s1, .ref s2] w := by
  refine (bu (ls'' := [some (.ref l0), some (.int l1), some (.int l2), some (.int l3)]) (st' := [.int (nI 0), .int s0, .int s1, .ref s2]) bf161_46 bf161_47 rfl rfl).trans ?_
  rfl
theorem bk161_42 {w : am_Wd} {l0 : Nat} {l1 : Int32} {l2 : Int32} {l3 : Int32} {s0 : Int32} {s1 : Int32} {s2 : Nat} : am_run 161 42 [some (.ref l0), some (.int l1), some (.int l2), some (.int l3)] [.int s0, .int s1, .ref s2] w = am_run 161 47 [some (.ref l0), some (.int l1), some (.int l2), some (.int l3)] [.int (nI 1), .int s0, .int s1, .ref s2] w := by
  refine (bu (ls'' := [some (.ref l0), some (.int l1), some (.int l2), some (.int l3)]) (st' := [.int (nI 1), .int s0, .int s1, .ref s2]) bf161_42 bf161_43 rfl rfl).trans ?_
  refine (bu (ls'' := [some (.ref l0), some (.int l1), some (.int l2), some (.int l3)]) (st' := [.int (nI 1), .int s0, .int s1, .ref s2]) bf161_43 bf161_47 rfl rfl).trans ?_
  rfl
theorem bk161_47 {w : am_Wd} {l0 : Nat} {l1 : Int32} {l2 : Int32} {l3 : Int32} {s0 : Int32} {s1 : Int32} {s2 : Int32} {s3 : Nat} : am_run 161 47 [some (.ref l0), some (.int l1), some (.int l2), some (.int l3)] [.int s0, .int s1, .int s2, .ref s3] w = (am_kf w s3 7).bind fun _ => (am_x 82 [.ref s3, .int s2, .int s1, .int s0] w).bind fun r => bct r fun v w' => am_run 161 50 [some (.ref l0), some (.int l1), some (.int l2), some (.int l3)] (v.toList ++ []) w' := by
  exact bkV bf161_47 bf161_50 rfl (by decide +kernel) (Nat.le_of_ble_eq_true rfl) rfl (bhd rfl)
theorem bk161_50 {w : am_Wd} {l0 : Nat} {l1 : Int32} {l2 : Int32} {l3 : Int32} : am_run 161 50 [some (.ref l0), some (.int l1), some (.int l2), some (.int l3)] [] w = am_run 161 15 [some (.ref l0), some (.int l1), some (.int l2), some (.int (l3 + (nI 1)))] [] w := by
  refine (bu (ls'' := [some (.ref l0), some (.int l1), some (.int l2), some (.int (l3 + (nI 1)))]) (st' := []) bf161_50 bf161_53 rfl rfl).trans ?_
  refine (bu (ls'' := [some (.ref l0), some (.int l1), some (.int l2), some (.int (l3 + (nI 1)))]) (st' := []) bf161_53 bf161_15 rfl rfl).trans ?_
  rfl
theorem bf162_0 : am_fetch (am_mth 162) 0 = some (.aload_n 0, 1, [], [1]) := by decide +kernel
theorem bf162_1 : am_fetch (am_mth 162) 1 = some (.getfield 21, 3, [0, 6, 2, 614], [1]) := by decide +kernel
theorem bf162_4 : am_fetch (am_mth 162) 4 = some (.invokevirtual 64, 3, [0, 118, 0, 4, 380, 381, 382, 65], [1]) := by decide +kernel
theorem bf162_7 : am_fetch (am_mth 162) 7 = some (.istore_n 1, 1, [], [1]) := by decide +kernel
theorem bf162_8 : am_fetch (am_mth 162) 8 = some (.iload_n 1, 1, [], []) := by decide +kernel
theorem bf162_9 : am_fetch (am_mth 162) 9 = some (.iconst (-1), 1, [], []) := by decide +kernel
theorem bf162_10 : am_fetch (am_mth 162) 10 = some (.if_icmp .ne 8, 3, [], []) := by decide +kernel
theorem bf162_13 : am_fetch (am_mth 162) 13 = some (.bipush (-2), 2, [], [0, 1]) := by decide +kernel
theorem bf162_15 : am_fetch (am_mth 162) 15 = some (.goto 17, 3, [], [0, 1]) := by decide +kernel
theorem bf162_18 : am_fetch (am_mth 162) 18 = some (.aload_n 0, 1, [], []) := by decide +kernel
theorem bf162_19 : am_fetch (am_mth 162) 19 = some (.getfield 12, 3, [0, 6, 1, 612], []) := by decide +kernel
theorem bf162_22 : am_fetch (am_mth 162) 22 = some (.iload_n 1, 1, [], []) := by decide +kernel
theorem bf162_23 : am_fetch (am_mth 162) 23 = some (.iconst 4, 1, [], [1]) := by decide +kernel
theorem bf162_24 : am_fetch (am_mth 162) 24 = some (.idiv, 1, [], [1]) := by decide +kernel
theorem bf162_25 : am_fetch (am_mth 162) 25 = some (.aload_n 0, 1, [], [1]) := by decide +kernel
theorem bf162_26 : am_fetch (am_mth 162) 26 = some (.getfield 25, 3, [0, 6, 0, 610], [0, 1]) := by decide +kernel
theorem bf162_29 : am_fetch (am_mth 162) 29 = some (.invokevirtual 88, 3, [0, 87, 2, 7, 386, 387, 388, 64], [0, 1]) := by decide +kernel
theorem bf162_32 : am_fetch (am_mth 162) 32 = some (.ireturn, 1, [0], [0, 1]) := by decide +kernel
theorem bk162_0 {w : am_Wd} {l0 : Nat} : am_run 162 0 [some (.ref l0), none] [] w = (am_gf w l0 6 2).bind fun v => am_run 162 4 [some (.ref l0), none] (v :: []) w := by
  refine (bu (ls'' := [some (.ref l0), none]) (st' := [.ref l0]) bf162_0 bf162_1 rfl rfl).trans ?_
  exact bh bf162_1 bf162_4 rfl (fun _ _ => am_ge_rf w) rfl
theorem bk162_4 {w : am_Wd} {l0 : Nat} {s0 : Nat} : am_run 162 4 [some (.ref l0), none] [.ref s0] w = (am_kf w s0 4).bind fun _ => (am_x 118 [.ref s0] w).bind fun r => bct r fun v w' => am_run 162 7 [some (.ref l0), none] (v.toList ++ []) w' := by
  exact bkV bf162_4 bf162_7 rfl (by decide +kernel) (Nat.le_of_ble_eq_true rfl) rfl (bhd rfl)
theorem bk162_7 {w : am_Wd} {l0 : Nat} {s0 : Int32} : am_run 162 7 [some (.ref l0), none] [.int s0] w = if ¬ s0 = (-1 : Int32) then am_run 162 18 [some (.ref l0), some (.int s0)] [] w else am_run 162 13 [none, none] [] w := by
  refine (bu (ls'' := [some (.ref l0), some (.int s0)]) (st' := []) bf162_7 bf162_8 rfl rfl).trans ?_
  refine (bu (ls'' := [some (.ref l0), some (.int s0)]) (st' := [.int s0]) bf162_8 bf162_9 rfl rfl).trans ?_
  refine (bu (ls'' := [some (.ref l0), some (.int s0)]) (st' := [.int (-1 : Int32), .int s0]) bf162_9 bf162_10 rfl rfl).trans ?_
  exact bic bf162_10 rfl bf162_18 bf162_13 rfl rfl rfl
theorem bk162_18 {w : am_Wd} {l0 : Nat} {l1 : Int32} : am_run 162 18 [some (.ref l0), some (.int l1)] [] w = (am_gf w l0 6 1).bind fun v => am_run 162 22 [some (.ref l0), some (.int l1)] (v :: []) w := by
  refine (bu (ls'' := [some (.ref l0), some (.int l1)]) (st' := [.ref l0]) bf162_18 bf162_19 rfl rfl).trans ?_
  exact bh bf162_19 bf162_22 rfl (fun _ _ => am_ge_rf w) rfl
theorem bk162_13 {w : am_Wd}  : am_run 162 13 [none, none] [] w = am_run 162 32 [none, none] [.int (-2 : Int32)] w := by
  refine (bu (ls'' := [none, none]) (st' := [.int (-2 : Int32)]) bf162_13 bf162_15 rfl rfl).trans ?_
  refine (bu (ls'' := [none, none]) (st' := [.int (-2 : Int32)]) bf162_15 bf162_32 rfl rfl).trans ?_
  rfl
theorem bk162_22 {w : am_Wd} {l0 : Nat} {l1 : Int32} {s0 : Nat} : am_run 162 22 [some (.ref l0), some (.int l1)] [.ref s0] w = (am_gf w l0 6 0).bind fun v => am_run 162 29 [none, none] (v :: [.int (l1 / (nI 4)), .ref s0]) w := by
  refine (bu (ls'' := [some (.ref l0), none]) (st' := [.int l1, .ref s0]) bf162_22 bf162_23 rfl rfl).trans ?_
  refine (bu (ls'' := [some (.ref l0), none]) (st' := [.int (nI 4), .int l1, .ref s0]) bf162_23 bf162_24 rfl rfl).trans ?_
  refine (bu (ls'' := [some (.ref l0), none]) (st' := [.int (l1 / (nI 4)), .ref s0]) bf162_24 bf162_25 rfl rfl).trans ?_
  refine (bu (ls'' := [none, none]) (st' := [.ref l0, .int (l1 / (nI 4)), .ref s0]) bf162_25 bf162_26 rfl rfl).trans ?_
  exact bh bf162_26 bf162_29 rfl (fun _ _ => am_ge_rf w) rfl
theorem bk162_32 {w : am_Wd} {s0 : Int32} : am_run 162 32 [none, none] [.int s0] w = some (.inl (some (.int s0)), w) := by
  exact am_e2 bf162_32 rfl (am_ge_rf w)
theorem bk162_29 {w : am_Wd} {s0 : Int32} {s1 : Int32} {s2 : Nat} : am_run 162 29 [none, none] [.int s0, .int s1, .ref s2] w = (am_kf w s2 7).bind fun _ => (am_x 87 [.ref s2, .int s1, .int s0] w).bind fun r => bct r fun v w' => am_run 162 32 [none, none] (v.toList ++ []) w' := by
  exact bkV bf162_29 bf162_32 rfl (by decide +kernel) (Nat.le_of_ble_eq_true rfl) rfl (bhd rfl)
theorem bf163_0 : am_fetch (am_mth 163) 0 = some (.aload_n 0, 1, [], [1]) := by decide +kernel
theorem bf163_1 : am_fetch (am_mth 163) 1 = some (.getfield 21, 3, [0, 6, 2, 614], [1]) := by decide +kernel
theorem bf163_4 : am_fetch (am_mth 163) 4 = some (.invokevirtual 64, 3, [0, 118, 0, 4, 380, 381, 382, 65], [1]) := by decide +kernel
theorem bf163_7 : am_fetch (am_mth 163) 7 = some (.istore_n 1, 1, [], [1]) := by decide +kernel
theorem bf163_8 : am_fetch (am_mth 163) 8 = some (.iload_n 1, 1, [], []) := by decide +kernel
theorem bf163_9 : am_fetch (am_mth 163) 9 = some (.iconst (-1), 1, [], []) := by decide +kernel
theorem bf163_10 : am_fetch (am_mth 163) 10 = some (.if_icmp .ne 8, 3, [], []) := by decide +kernel
theorem bf163_13 : am_fetch (am_mth 163) 13 = some (.bipush (-2), 2, [], [0, 1]) := by decide +kernel
theorem bf163_15 : am_fetch (am_mth 163) 15 = some (.goto 13, 3, [], [0, 1]) := by decide +kernel
theorem bf163_18 : am_fetch (am_mth 163) 18 = some (.aload_n 0, 1, [], []) := by decide +kernel
theorem bf163_19 : am_fetch (am_mth 163) 19 = some (.getfield 12, 3, [0, 6, 1, 612], [0]) := by decide +kernel
theorem bf163_22 : am_fetch (am_mth 163) 22 = some (.iload_n 1, 1, [], [0]) := by decide +kernel
theorem bf163_23 : am_fetch (am_mth 163) 23 = some (.iconst 4, 1, [], [0, 1]) := by decide +kernel
theorem bf163_24 : am_fetch (am_mth 163) 24 = some (.idiv, 1, [], [0, 1]) := by decide +kernel
theorem bf163_25 : am_fetch (am_mth 163) 25 = some (.invokevirtual 98, 3, [0, 132, 1, 7, 408, 409, 410, 64], [0, 1]) := by decide +kernel
theorem bf163_28 : am_fetch (am_mth 163) 28 = some (.ireturn, 1, [0], [0, 1]) := by decide +kernel
theorem bk163_0 {w : am_Wd} {l0 : Nat} : am_run 163 0 [some (.ref l0), none] [] w = (am_gf w l0 6 2).bind fun v => am_run 163 4 [some (.ref l0), none] (v :: []) w := by
  refine (bu (ls'' := [some (.ref l0), none]) (st' := [.ref l0]) bf163_0 bf163_1 rfl rfl).trans ?_
  exact bh bf163_1 bf163_4 rfl (fun _ _ => am_ge_rf w) rfl
theorem bk163_4 {w : am_Wd} {l0 : Nat} {s0 : Nat} : am_run 163 4 [some (.ref l0), none] [.ref s0] w = (am_kf w s0 4).bind fun _ => (am_x 118 [.ref s0] w).bind fun r => bct r fun v w' => am_run 163 7 [some (.ref l0), none] (v.toList ++ []) w' := by
  exact bkV bf163_4 bf163_7 rfl (by decide +kernel) (Nat.le_of_ble_eq_true rfl) rfl (bhd rfl)
theorem bk163_7 {w : am_Wd} {l0 : Nat} {s0 : Int32} : am_run 163 7 [some (.ref l0), none] [.int s0] w = if ¬ s0 = (-1 : Int32) then am_run 163 18 [some (.ref l0), some (.int s0)] [] w else am_run 163 13 [none, none] [] w := by
  refine (bu (ls'' := [some (.ref l0), some (.int s0)]) (st' := []) bf163_7 bf163_8 rfl rfl).trans ?_
  refine (bu (ls'' := [some (.ref l0), some (.int s0)]) (st' := [.int s0]) bf163_8 bf163_9 rfl rfl).trans ?_
  refine (bu (ls'' := [some (.ref l0), some (.int s0)]) (st' := [.int (-1 : Int32), .int s0]) bf163_9 bf163_10 rfl rfl).trans ?_
  exact bic bf163_10 rfl bf163_18 bf163_13 rfl rfl rfl
theorem bk163_18 {w : am_Wd} {l0 : Nat} {l1 : Int32} : am_run 163 18 [some (.ref l0), some (.int l1)] [] w = (am_gf w l0 6 1).bind fun v => am_run 163 22 [none, some (.int l1)] (v :: []) w := by
  refine (bu (ls'' := [none, some (.int l1)]) (st' := [.ref l0]) bf163_18 bf163_19 rfl rfl).trans ?_
  exact bh bf163_19 bf163_22 rfl (fun _ _ => am_ge_rf w) rfl
theorem bk163_13 {w : am_Wd}  : am_run 163 13 [none, none] [] w = am_run 163 28 [none, none] [.int (-2 : Int32)] w := by
  refine (bu (ls'' := [none, none]) (st' := [.int (-2 : Int32)]) bf163_13 bf163_15 rfl rfl).trans ?_
  refine (bu (ls'' := [none, none]) (st' := [.int (-2 : Int32)]) bf163_15 bf163_28 rfl rfl).trans ?_
  rfl
theorem bk163_22 {w : am_Wd} {l1 : Int32} {s0 : Nat} : am_run 163 22 [none, some (.int l1)] [.ref s0] w = (am_kf w s0 7).bind fun _ => (am_x 132 [.ref s0, .int (l1 / (nI 4))] w).bind fun r => bct r fun v w' => am_run 163 28 [none, none] (v.toList ++ []) w' := by
  refine (bu (ls'' := [none, none]) (st' := [.int l1, .ref s0]) bf163_22 bf163_23 rfl rfl).trans ?_
  refine (bu (ls'' := [none, none]) (st' := [.int (nI 4), .int l1, .ref s0]) bf163_23 bf163_24 rfl rfl).trans ?_
  refine (bu (ls'' := [none, none]) (st' := [.int (l1 / (nI 4)), .ref s0]) bf163_24 bf163_25 rfl rfl).trans ?_
  exact bkV bf163_25 bf163_28 rfl (by decide +kernel) (Nat.le_of_ble_eq_true rfl) rfl (bhd rfl)
theorem bk163_28 {w : am_Wd} {s0 : Int32} : am_run 163 28 [none, none] [.int s0] w = some (.inl (some (.int s0)), w) := by
  exact am_e2 bf163_28 rfl (am_ge_rf w)
theorem bf164_0 : am_fetch (am_mth 164) 0 = some (.iload_n 1, 1, [], [2, 3]) := by decide +kernel
theorem bf164_1 : am_fetch (am_mth 164) 1 = some (.lookupswitch 90 #[(0, 27), (3, 55)], 27, [], [1, 2, 3]) := by decide +kernel
theorem bf164_28 : am_fetch (am_mth 164) 28 = some (.aload_n 0, 1, [], [1, 2, 3]) := by decide +kernel
theorem bf164_29 : am_fetch (am_mth 164) 29 = some (.getfield 21, 3, [0, 6, 2, 614], [1, 2, 3]) := by decide +kernel
theorem bf164_32 : am_fetch (am_mth 164) 32 = some (.iconst 1, 1, [], [1, 2, 3]) := by decide +kernel
theorem bf164_33 : am_fetch (am_mth 164) 33 = some (.aload_n 0, 1, [], [1, 2, 3]) := by decide +kernel
theorem bf164_34 : am_fetch (am_mth 164) 34 = some (.getfield 12, 3, [0, 6, 1, 612], [1, 2, 3]) := by decide +kernel
theorem bf164_37 : am_fetch (am_mth 164) 37 = some (.invokevirtual 101, 3, [0, 121, 2, 4, 429, 430, 431, 65], [1, 2, 3]) := by decide +kernel
theorem bf164_40 : am_fetch (am_mth 164) 40 = some (.aload_n 0, 1, [], [1, 2, 3]) := by decide +kernel
theorem bf164_41 : am_fetch (am_mth 164) 41 = some (.getfield 21, 3, [0, 6, 2, 614], [1, 2, 3]) := by decide +kernel
theorem bf164_44 : am_fetch (am_mth 164) 44 = some (.iconst 0, 1, [], [1, 2, 3]) := by decide +kernel
theorem bf164_45 : am_fetch (am_mth 164) 45 = some (.aload_n 0, 1, [], [1, 2, 3]) := by decide +kernel
theorem bf164_46 : am_fetch (am_mth 164) 46 = some (.getfield 12, 3, [0, 6, 1, 612], [0, 1, 2, 3]) := by decide +kernel
theorem bf164_49 : am_fetch (am_mth 164) 49 = some (.invokevirtual 101, 3, [0, 121, 2, 4, 429, 430, 431, 65], [0, 1, 2, 3]) := by decide +kernel
theorem bf164_52 : am_fetch (am_mth 164) 52 = some (.invokestatic 105, 3, [1, 445, 446, 59, 447], [0, 1, 2, 3]) := by decide +kernel
theorem bf164_55 : am_fetch (am_mth 164) 55 = some (.ireturn, 1, [0], [0, 1, 2, 3]) := by decide +kernel
theorem bf164_56 : am_fetch (am_mth 164) 56 = some (.iconst 0, 1, [], [1, 2, 3]) := by decide +kernel
theorem bf164_57 : am_fetch (am_mth 164) 57 = some (.istore_n 2, 1, [], [1, 2, 3]) := by decide +kernel
theorem bf164_58 : am_fetch (am_mth 164) 58 = some (.iconst 0, 1, [], [1, 3]) := by decide +kernel
theorem bf164_59 : am_fetch (am_mth 164) 59 = some (.istore_n 3, 1, [], [1, 3]) := by decide +kernel
theorem bf164_60 : am_fetch (am_mth 164) 60 = some (.iload_n 3, 1, [], [1]) := by decide +kernel
theorem bf164_61 : am_fetch (am_mth 164) 61 = some (.bipush 8, 2, [], [1]) := by decide +kernel
theorem bf164_63 : am_fetch (am_mth 164) 63 = some (.if_icmp .ge 26, 3, [], [1]) := by decide +kernel
theorem bf164_66 : am_fetch (am_mth 164) 66 = some (.iload_n 2, 1, [], [1]) := by decide +kernel
theorem bf164_67 : am_fetch (am_mth 164) 67 = some (.aload_n 0, 1, [], [1, 2]) := by decide +kernel
theorem bf164_68 : am_fetch (am_mth 164) 68 = some (.getfield 21, 3, [0, 6, 2, 614], [1, 2]) := by decide +kernel
theorem bf164_71 : am_fetch (am_mth 164) 71 = some (.iload_n 3, 1, [], [1, 2]) := by decide +kernel
theorem bf164_72 : am_fetch (am_mth 164) 72 = some (.aload_n 0, 1, [], [1, 2]) := by decide +kernel
theorem bf164_73 : am_fetch (am_mth 164) 73 = some (.getfield 12, 3, [0, 6, 1, 612], [1, 2]) := by decide +kernel
theorem bf164_76 : am_fetch (am_mth 164) 76 = some (.invokevirtual 110, 3, [0, 122, 2, 4, 448, 449, 450, 65], [1, 2]) := by decide +kernel
theorem bf164_79 : am_fetch (am_mth 164) 79 = some (.invokestatic 105, 3, [1, 445, 446, 59, 447], [1, 2]) := by decide +kernel
theorem bf164_82 : am_fetch (am_mth 164) 82 = some (.istore_n 2, 1, [], [1, 2]) := by decide +kernel
theorem bf164_83 : am_fetch (am_mth 164) 83 = some (.iinc 3 1, 3, [], [1]) := by decide +kernel
theorem bf164_86 : am_fetch (am_mth 164) 86 = some (.goto (-26), 3, [], [1]) := by decide +kernel
theorem bf164_89 : am_fetch (am_mth 164) 89 = some (.iload_n 2, 1, [], [0, 1, 3]) := by decide +kernel
theorem bf164_90 : am_fetch (am_mth 164) 90 = some (.ireturn, 1, [0], [0, 1, 2, 3]) := by decide +kernel
theorem bf164_91 : am_fetch (am_mth 164) 91 = some (.aload_n 0, 1, [], [1, 2, 3]) := by decide +kernel
theorem bf164_92 : am_fetch (am_mth 164) 92 = some (.getfield 21, 3, [0, 6, 2, 614], [0, 1, 2, 3]) := by decide +kernel
theorem bf164_95 : am_fetch (am_mth 164) 95 = some (.invokevirtual 42, 3, [0, 72, 0, 4, 151, 152, 153, 65], [0, 1, 2, 3]) := by decide +kernel
theorem bf164_98 : am_fetch (am_mth 164) 98 = some (.ireturn, 1, [0], [0, 1, 2, 3]) := by decide +kernel
theorem bk164_0 {w : am_Wd} {l0 : Nat} {l1 : Int32} : am_run 164 0 [some (.ref l0), some (.int l1), none, none] [] w = if l1 = (nI 0) then am_run 164 28 [some (.ref l0), none, none, none] [] w else if l1 = (nI 3) then am_run 164 56 [some (.ref l0), none, none, none] [] w else am_run 164 91 [some (.ref l0), none, none, none] [] w := by
  refine (bu (ls'' := [some (.ref l0), none, none, none]) (st' := [.int l1]) bf164_0 bf164_1 rfl rfl).trans ?_
  refine bsw (fun q => ?_) (fun q0 => ?_)
  · exact bu (ls' := [some (.ref l0), none, none, none]) (ls'' := [some (.ref l0), none, none, none]) (st' := []) bf164_1 bf164_28 (by rw [q]; rfl) rfl
  refine bsw (fun q => ?_) (fun q1 => ?_)
  · exact bu (ls' := [some (.ref l0), none, none, none]) (ls'' := [some (.ref l0), none, none, none]) (st' := []) bf164_1 bf164_56 (by rw [q]; rfl) rfl
  exact bsl bf164_1 bf164_91 rfl rfl (bcon (by rfl) q0 (bcon (by rfl) q1 (bnil))) rfl
theorem bk164_28 {w : am_Wd} {l0 : Nat} : am_run 164 28 [some (.ref l0), none, none, none] [] w = (am_gf w l0 6 2).bind fun v => am_run 164 32 [some (.ref l0), none, none, none] (v :: []) w := by
  refine (bu (ls'' := [some (.ref l0), none, none, none]) (st' := [.ref l0]) bf164_28 bf164_29 rfl rfl).trans ?_
  exact bh bf164_29 bf164_32 rfl (fun _ _ => am_ge_rf w) rfl
theorem bk164_56 {w : am_Wd} {l0 : Nat} : am_run 164 56 [some (.ref l0), none, none, none] [] w = am_run 164 60 [some (.ref l0), none, some (.int (nI 0)), some (.int (nI 0))] [] w := by
  refine (bu (ls'' := [some (.ref l0), none, none, none]) (st' := [.int (nI 0)]) bf164_56 bf164_57 rfl rfl).trans ?_
  refine (bu (ls'' := [some (.ref l0), none, some (.int (nI 0)), none]) (st' := []) bf164_57 bf164_58 rfl rfl).trans ?_
  refine (bu (ls'' := [some (.ref l0), none, some (.int (nI 0)), none]) (st' := [.int (nI 0)]) bf164_58 bf164_59 rfl rfl).trans ?_
  refine (bu (ls'' := [some (.ref l0), none, some (.int (nI 0)), some (.int (nI 0))]) (st' := []) bf164_59 bf164_60 rfl rfl).trans ?_
  rfl
theorem bk164_91 {w : am_Wd} {l0 : Nat} : am_run 164 91 [some (.ref l0), none, none, none] [] w = (am_gf w l0 6 2).bind fun v => am_run 164 95 [none, none, none, none] (v :: []) w := by
  refine (bu (ls'' := [none, none, none, none]) (st' := [.ref l0]) bf164_91 bf164_92 rfl rfl).trans ?_
  exact bh bf164_92 bf164_95 rfl (fun _ _ => am_ge_rf w) rfl
theorem bk164_32 {w : am_Wd} {l0 : Nat} {s0 : Nat} : am_run 164 32 [some (.ref l0), none, none, none] [.ref s0] w = (am_gf w l0 6 1).bind fun v => am_run 164 37 [some (.ref l0), none, none, none] (v :: [.int (nI 1), .ref s0]) w := by
  refine (bu (ls'' := [some (.ref l0), none, none, none]) (st' := [.int (nI 1), .ref s0]) bf164_32 bf164_33 rfl rfl).trans ?_
  refine (bu (ls'' := [some (.ref l0), none, none, none]) (st' := [.ref l0, .int (nI 1), .ref s0]) bf164_33 bf164_34 rfl rfl).trans ?_
  exact bh bf164_34 bf164_37 rfl (fun _ _ => am_ge_rf w) rfl
theorem bk164_60 {w : am_Wd} {l0 : Nat} {l2 : Int32} {l3 : Int32} : am_run 164 60 [some (.ref l0), none, some (.int l2), some (.int l3)] [] w = if (nI 8) ≤ l3 then am_run 164 89 [none, none, some (.int l2), none] [] w else am_run 164 66 [some (.ref l0), none, some (.int l2), some (.int l3)] [] w := by
  refine (bu (ls'' := [some (.ref l0), none, some (.int l2), some (.int l3)]) (st' := [.int l3]) bf164_60 bf164_61 rfl rfl).trans ?_
  refine (bu (ls'' := [some (.ref l0), none, some (.int l2), some (.int l3)]) (st' := [.int (nI 8), .int l3]) bf164_61 bf164_63 rfl rfl).trans ?_
  exact bic bf164_63 rfl bf164_89 bf164_66 rfl rfl rfl
theorem bk164_95 {w : am_Wd} {s0 : Nat} : am_run 164 95 [none, none, none, none] [.ref s0] w = (am_kf w s0 4).bind fun _ => (am_x 72 [.ref s0] w).bind fun r => bct r fun v w' => am_run 164 98 [none, none, none, none] (v.toList ++ []) w' := by
  exact bkV bf164_95 bf164_98 rfl (by decide +kernel) (Nat.le_of_ble_eq_true rfl) rfl (bhd rfl)
theorem bk164_37 {w : am_Wd} {l0 : Nat} {s0 : Nat} {s1 : Int32} {s2 : Nat} : am_run 164 37 [some (.ref l0), none, none, none] [.ref s0, .int s1, .ref s2] w = (am_kf w s2 4).bind fun _ => (am_x 121 [.ref s2, .int s1, .ref s0] w).bind fun r => bct r fun v w' => am_run 164 40 [some (.ref l0), none, none, none] (v.toList ++ []) w' := by
  exact bkV bf164_37 bf164_40 rfl (by decide +kernel) (Nat.le_of_ble_eq_true rfl) rfl (bhd rfl)
theorem bk164_89 {w : am_Wd} {l2 : Int32} : am_run 164 89 [none, none, some (.int l2), none] [] w = some (.inl (some (.int l2)), w) := by
  refine (bu (ls'' := [none, none, none, none]) (st' := [.int l2]) bf164_89 bf164_90 rfl rfl).trans ?_
  exact am_e2 bf164_90 rfl (am_ge_rf w)
theorem bk164_66 {w : am_Wd} {l0 : Nat} {l2 : Int32} {l3 : Int32} : am_run 164 66 [some (.ref l0), none, some (.int l2), some (.int l3)] [] w = (am_gf w l0 6 2).bind fun v => am_run 164 71 [some (.ref l0), none, none, some (.int l3)] (v :: [.int l2]) w := by
  refine (bu (ls'' := [some (.ref l0), none, none, some (.int l3)]) (st' := [.int l2]) bf164_66 bf164_67 rfl rfl).trans ?_
  refine (bu (ls'' := [some (.ref l0), none, none, some (.int l3)]) (st' := [.ref l0, .int l2]) bf164_67 bf164_68 rfl rfl).trans ?_
  exact bh bf164_68 bf164_71 rfl (fun _ _ => am_ge_rf w) rfl
theorem bk164_98 {w : am_Wd} {s0 : Int32} : am_run 164 98 [none, none, none, none] [.int s0] w = some (.inl (some (.int s0)), w) := by
  exact am_e2 bf164_98 rfl (am_ge_rf w)
theorem bk164_40 {w : am_Wd} {l0 : Nat} {s0 : Int32} : am_run 164 40 [some (.ref l0), none, none, none] [.int s0] w = (am_gf w l0 6 2).bind fun v => am_run 164 44 [some (.ref l0), none, none, none] (v :: [.int s0]) w := by
  refine (bu (ls'' := [some (.ref l0), none, none, none]) (st' := [.ref l0, .int s0]) bf164_40 bf164_41 rfl rfl).trans ?_
  exact bh bf164_41 bf164_44 rfl (fun _ _ => am_ge_rf w) rfl
theorem bk164_71 {w : am_Wd} {l0 : Nat} {l3 : Int32} {s0 : Nat} {s1 : Int32} : am_run 164 71 [some (.ref l0), none, none, some (.int l3)] [.ref s0, .int s1] w = (am_gf w l0 6 1).bind fun v => am_run 164 76 [some (.ref l0), none, none, some (.int l3)] (v :: [.int l3, .ref s0, .int s1]) w := by
  refine (bu (ls'' := [some (.ref l0), none, none, some (.int l3)]) (st' := [.int l3, .ref s0, .int s1]) bf164_71 bf164_72 rfl rfl).trans ?_
  refine (bu (ls'' := [some (.ref l0), none, none, some (.int l3)]) (st' := [.ref l0, .int l3, .ref s0, .int s1]) bf164_72 bf164_73 rfl rfl).trans ?_
  exact bh bf164_73 bf164_76 rfl (fun _ _ => am_ge_rf w) rfl
theorem bk164_44 {w : am_Wd} {l0 : Nat} {s0 : Nat} {s1 : Int32} : am_run 164 44 [some (.ref l0), none, none, none] [.ref s0, .int s1] w = (am_gf w l0 6 1).bind fun v => am_run 164 49 [none, none, none, none] (v :: [.int (nI 0), .ref s0, .int s1]) w := by
  refine (bu (ls'' := [some (.ref l0), none, none, none]) (st' := [.int (nI 0), .ref s0, .int s1]) bf164_44 bf164_45 rfl rfl).trans ?_
  refine (bu (ls'' := [none, none, none, none]) (st' := [.ref l0, .int (nI 0), .ref s0, .int s1]) bf164_45 bf164_46 rfl rfl).trans ?_
  exact bh bf164_46 bf164_49 rfl (fun _ _ => am_ge_rf w) rfl
theorem bk164_76 {w : am_Wd} {l0 : Nat} {l3 : Int32} {s0 : Nat} {s1 : Int32} {s2 : Nat} {s3 : Int32} : am_run 164 76 [some (.ref l0), none, none, some (.int l3)] [.ref s0, .int s1, .ref s2, .int s3] w = (am_kf w s2 4).bind fun _ => (am_x 122 [.ref s2, .int s1, .ref s0] w).bind fun r => bct r fun v w' => am_run 164 79 [some (.ref l0), none, none, some (.int l3)] (v.toList ++ [.int s3]) w' := by
  exact bkV bf164_76 bf164_79 rfl (by decide +kernel) (Nat.le_of_ble_eq_true rfl) rfl (bhd rfl)
theorem bk164_49 {w : am_Wd} {s0 : Nat} {s1 : Int32} {s2 : Nat} {s3 : Int32} : am_run 164 49 [none, none, none, none] [.ref s0, .int s1, .ref s2, .int s3] w = (am_kf w s2 4).bind fun _ => (am_x 121 [.ref s2, .int s1, .ref s0] w).bind fun r => bct r fun v w' => am_run 164 52 [none, none, none, none] (v.toList ++ [.int s3]) w' := by
  exact bkV bf164_49 bf164_52 rfl (by decide +kernel) (Nat.le_of_ble_eq_true rfl) rfl (bhd rfl)
theorem bk164_79 {w : am_Wd} {l0 : Nat} {l3 : Int32} {s0 : Int32} {s1 : Int32} : am_run 164 79 [some (.ref l0), none, none, some (.int l3)] [.int s0, .int s1] w = am_run 164 60 [some (.ref l0), none, some (.int (bj_max s1 s0)), some (.int (l3 + (nI 1)))] [] w := by
  refine (bu (ls'' := [some (.ref l0), none, none, some (.int l3)]) (st' := [.int (bj_max s1 s0)]) bf164_79 bf164_82 rfl rfl).trans ?_
  refine (bu (ls'' := [some (.ref l0), none, some (.int (bj_max s1 s0)), some (.int l3)]) (st' := []) bf164_82 bf164_83 rfl rfl).trans ?_
  refine (bu (ls'' := [some (.ref l0), none, some (.int (bj_max s1 s0)), some (.int (l3 + (nI 1)))]) (st' := []) bf164_83 bf164_86 rfl rfl).trans ?_
  refine (bu (ls'' := [some (.ref l0), none, some (.int (bj_max s1 s0)), some (.int (l3 + (nI 1)))]) (st' := []) bf164_86 bf164_60 rfl rfl).trans ?_
  rfl
theorem bk164_52 {w : am_Wd} {s0 : Int32} {s1 : Int32} : am_run 164 52 [none, none, none, none] [.int s0, .int s1] w = some (.inl (some (.int (bj_max s1 s0))), w) := by
  refine (bu (ls'' := [none, none, none, none]) (st' := [.int (bj_max s1 s0)]) bf164_52 bf164_55 rfl rfl).trans ?_
  exact am_e2 bf164_55 rfl (am_ge_rf w)
theorem bf165_0 : am_fetch (am_mth 165) 0 = some (.iload_n 1, 1, [], []) := by decide +kernel
theorem bf165_1 : am_fetch (am_mth 165) 1 = some (.tableswitch 125 0 11 #[63, 68, 73, 78, 86, 94, 102, 125, 125, 110, 115, 120], 63, [], [1]) := by decide +kernel
theorem bf165_64 : am_fetch (am_mth 165) 64 = some (.aload_n 0, 1, [], [1]) := by decide +kernel
theorem bf165_65 : am_fetch (am_mth 165) 65 = some (.getfield 29, 3, [0, 6, 3, 616], [0, 1]) := by decide +kernel
theorem bf165_68 : am_fetch (am_mth 165) 68 = some (.ireturn, 1, [0], [0, 1]) := by decide +kernel
theorem bf165_69 : am_fetch (am_mth 165) 69 = some (.aload_n 0, 1, [], [1]) := by decide +kernel
theorem bf165_70 : am_fetch (am_mth 165) 70 = some (.getfield 25, 3, [0, 6, 0, 610], [0, 1]) := by decide +kernel
theorem bf165_73 : am_fetch (am_mth 165) 73 = some (.ireturn, 1, [0], [0, 1]) := by decide +kernel
theorem bf165_74 : am_fetch (am_mth 165) 74 = some (.aload_n 0, 1, [], [1]) := by decide +kernel
theorem bf165_75 : am_fetch (am_mth 165) 75 = some (.getfield 32, 3, [0, 6, 4, 618], [0, 1]) := by decide +kernel
theorem bf165_78 : am_fetch (am_mth 165) 78 = some (.ireturn, 1, [0], [0, 1]) := by decide +kernel
theorem bf165_79 : am_fetch (am_mth 165) 79 = some (.aload_n 0, 1, [], [1]) := by decide +kernel
theorem bf165_80 : am_fetch (am_mth 165) 80 = some (.getfield 21, 3, [0, 6, 2, 614], [0, 1]) := by decide +kernel
theorem bf165_83 : am_fetch (am_mth 165) 83 = some (.invokevirtual 42, 3, [0, 72, 0, 4, 151, 152, 153, 65], [0, 1]) := by decide +kernel
theorem bf165_86 : am_fetch (am_mth 165) 86 = some (.ireturn, 1, [0], [0, 1]) := by decide +kernel
theorem bf165_87 : am_fetch (am_mth 165) 87 = some (.aload_n 0, 1, [], [1]) := by decide +kernel
theorem bf165_88 : am_fetch (am_mth 165) 88 = some (.invokevirtual 114, 3, [0, 128, 0, 6, 361, 362, 363, 63], [0, 1]) := by decide +kernel
theorem bf165_91 : am_fetch (am_mth 165) 91 = some (.invokestatic 118, 3, [0, 26, 1, 365, 200, 46], [0, 1]) := by decide +kernel
theorem bf165_94 : am_fetch (am_mth 165) 94 = some (.ireturn, 1, [0], [0, 1]) := by decide +kernel
theorem bf165_95 : am_fetch (am_mth 165) 95 = some (.aload_n 0, 1, [], [1]) := by decide +kernel
theorem bf165_96 : am_fetch (am_mth 165) 96 = some (.getfield 12, 3, [0, 6, 1, 612], [0, 1]) := by decide +kernel
theorem bf165_99 : am_fetch (am_mth 165) 99 = some (.invokevirtual 122, 3, [0, 83, 0, 7, 366, 203, 204, 64], [0, 1]) := by decide +kernel
theorem bf165_102 : am_fetch (am_mth 165) 102 = some (.ireturn, 1, [0], [0, 1]) := by decide +kernel
theorem bf165_103 : am_fetch (am_mth 165) 103 = some (.aload_n 0, 1, [], [1]) := by decide +kernel
theorem bf165_104 : am_fetch (am_mth 165) 104 = some (.getfield 12, 3, [0, 6, 1, 612], [0, 1]) := by decide +kernel
theorem bf165_107 : am_fetch (am_mth 165) 107 = some (.invokevirtual 125, 3, [0, 84, 0, 7, 367, 208, 209, 64], [0, 1]) := by decide +kernel
theorem bf165_110 : am_fetch (am_mth 165) 110 = some (.ireturn, 1, [0], [0, 1]) := by decide +kernel
theorem bf165_111 : am_fetch (am_mth 165) 111 = some (.aload_n 0, 1, [], [1]) := by decide +kernel
theorem bf165_112 : am_fetch (am_mth 165) 112 = some (.getfield 85, 3, [0, 6, 5, 620], [0, 1]) := by decide +kernel
theorem bf165_115 : am_fetch (am_mth 165) 115 = some (.ireturn, 1, [0], [0, 1]) := by decide +kernel
theorem bf165_116 : am_fetch (am_mth 165) 116 = some (.aload_n 0, 1, [], [1]) := by decide +kernel
theorem bf165_117 : am_fetch (am_mth 165) 117 = some (.getfield 128, 3, [0, 6, 6, 621], [0, 1]) := by decide +kernel
theorem bf165_120 : am_fetch (am_mth 165) 120 = some (.ireturn, 1, [0], [0, 1]) := by decide +kernel
theorem bf165_121 : am_fetch (am_mth 165) 121 = some (.aload_n 0, 1, [], [1]) := by decide +kernel
theorem bf165_122 : am_fetch (am_mth 165) 122 = some (.getfield 131, 3, [0, 6, 7, 624], [0, 1]) := by decide +kernel
theorem bf165_125 : am_fetch (am_mth 165) 125 = some (.ireturn, 1, [0], [0, 1]) := by decide +kernel
theorem bf165_126 : am_fetch (am_mth 165) 126 = some (.aload_n 0, 1, [], [1]) := by decide +kernel
theorem bf165_127 : am_fetch (am_mth 165) 127 = some (.getfield 134, 3, [0, 6, 8, 625], [0, 1]) := by decide +kernel
theorem bf165_130 : am_fetch (am_mth 165) 130 = some (.ireturn, 1, [0], [0, 1]) := by decide +kernel
theorem bk165_0 {w : am_Wd} {l0 : Nat} {l1 : Int32} : am_run 165 0 [some (.ref l0), some (.int l1)] [] w = if l1 = (nI 0) then am_run 165 64 [some (.ref l0), none] [] w else if l1 = (nI 1) then am_run 165 69 [some (.ref l0), none] [] w else if l1 = (nI 2) then am_run 165 74 [some (.ref l0), none] [] w else if l1 = (nI 3) then am_run 165 79 [some (.ref l0), none] [] w else if l1 = (nI 4) then am_run 165 87 [some (.ref l0), none] [] w else if l1 = (nI 5) then am_run 165 95 [some (.ref l0), none] [] w else if l1 = (nI 6) then am_run 165 103 [some (.ref l0), none] [] w else if l1 = (nI 7) then am_run 165 126 [some (.ref l0), none] [] w else if l1 = (nI 8) then am_run 165 126 [some (.ref l0), none] [] w else if l1 = (nI 9) then am_run 165 111 [some (.ref l0), none] [] w else if l1 = (nI 10) then am_run 165 116 [some (.ref l0), none] [] w else if l1 = (nI 11) then am_run 165 121 [some (.ref l0), none] [] w else am_run 165 126 [some (.ref l0), none] [] w := by
  refine (bu (ls'' := [some (.ref l0), none]) (st' := [.int l1]) bf165_0 bf165_1 rfl rfl).trans ?_
  refine bsw (fun q => ?_) (fun q0 => ?_)
  · exact bu (ls' := [some (.ref l0), none]) (ls'' := [some (.ref l0), none]) (st' := []) bf165_1 bf165_64 (by rw [q]; rfl) rfl
  refine bsw (fun q => ?_) (fun q1 => ?_)
  · exact bu (ls' := [some (.ref l0), none]) (ls'' := [some (.ref l0), none]) (st' := []) bf165_1 bf165_69 (by rw [q]; rfl) rfl
  refine bsw (fun q => ?_) (fun q2 => ?_)
  · exact bu (ls' := [some (.ref l0), none]) (ls'' := [some (.ref l0), none]) (st' := []) bf165_1 bf165_74 (by rw [q]; rfl) rfl
  refine bsw (fun q => ?_) (fun q3 => ?_)
  · exact bu (ls' := [some (.ref l0), none]) (ls'' := [some (.ref l0), none]) (st' := []) bf165_1 bf165_79 (by rw [q]; rfl) rfl
  refine bsw (fun q => ?_) (fun q4 => ?_)
  · exact bu (ls' := [some (.ref l0), none]) (ls'' := [some (.ref l0), none]) (st' := []) bf165_1 bf165_87 (by rw [q]; rfl) rfl
  refine bsw (fun q => ?_) (fun q5 => ?_)
  · exact bu (ls' := [some (.ref l0), none]) (ls'' := [some (.ref l0), none]) (st' := []) bf165_1 bf165_95 (by rw [q]; rfl) rfl
  refine bsw (fun q => ?_) (fun q6 => ?_)
  · exact bu (ls' := [some (.ref l0), none]) (ls'' := [some (.ref l0), none]) (st' := []) bf165_1 bf165_103 (by rw [q]; rfl) rfl
  refine bsw (fun q => ?_) (fun q7 => ?_)
  · exact bu (ls' := [some (.ref l0), none]) (ls'' := [some (.ref l0), none]) (st' := []) bf165_1 bf165_126 (by rw [q]; rfl) rfl
  refine bsw (fun q => ?_) (fun q8 => ?_)
  · exact bu (ls' := [some (.ref l0), none]) (ls'' := [some (.ref l0), none]) (st' := []) bf165_1 bf165_126 (by rw [q]; rfl) rfl
  refine bsw (fun q => ?_) (fun q9 => ?_)
  · exact bu (ls' := [some (.ref l0), none]) (ls'' := [some (.ref l0), none]) (st' := []) bf165_1 bf165_111 (by rw [q]; rfl) rfl
  refine bsw (fun q => ?_) (fun q10 => ?_)
  · exact bu (ls' := [some (.ref l0), none]) (ls'' := [some (.ref l0), none]) (st' := []) bf165_1 bf165_116 (by rw [q]; rfl) rfl
  refine bsw (fun q => ?_) (fun q11 => ?_)
  · exact bu (ls' := [some (.ref l0), none]) (ls'' := [some (.ref l0), none]) (st' := []) bf165_1 bf165_121 (by rw [q]; rfl) rfl
  exact bsd bf165_1 bf165_126 rfl rfl (bcon (by rfl) q0 (bcon (by rfl) q1 (bcon (by rfl) q2 (bcon (by rfl) q3 (bcon (by rfl) q4 (bcon (by rfl) q5 (bcon (by rfl) q6 (bcon (by rfl) q7 (bcon (by rfl) q8 (bcon (by rfl) q9 (bcon (by rfl) q10 (bcon (by rfl) q11 (bnil))))))))))))) rfl
theorem bk165_64 {w : am_Wd} {l0 : Nat} : am_run 165 64 [some (.ref l0), none] [] w = (am_gf w l0 6 3).bind fun v => am_run 165 68 [none, none] (v :: []) w := by
  refine (bu (ls'' := [none, none]) (st' := [.ref l0]) bf165_64 bf165_65 rfl rfl).trans ?_
  exact bh bf165_65 bf165_68 rfl (fun _ _ => am_ge_rf w) rfl
theorem bk165_69 {w : am_Wd} {l0 : Nat} : am_run 165 69 [some (.ref l0), none] [] w = (am_gf w l0 6 0).bind fun v => am_run 165 73 [none, none] (v :: []) w := by
  refine (bu (ls'' := [none, none]) (st' := [.ref l0]) bf165_69 bf165_70 rfl rfl).trans ?_
  exact bh bf165_70 bf165_73 rfl (fun _ _ => am_ge_rf w) rfl
theorem bk165_74 {w : am_Wd} {l0 : Nat} : am_run 165 74 [some (.ref l0), none] [] w = (am_gf w l0 6 4).bind fun v => am_run 165 78 [none, none] (v :: []) w := by
  refine (bu (ls'' := [none, none]) (st' := [.ref l0]) bf165_74 bf165_75 rfl rfl).trans ?_
  exact bh bf165_75 bf165_78 rfl (fun _ _ => am_ge_rf w) rfl
theorem bk165_79 {w : am_Wd} {l0 : Nat} : am_run 165 79 [some (.ref l0), none] [] w = (am_gf w l0 6 2).bind fun v => am_run 165 83 [none, none] (v :: []) w := by
  refine (bu (ls'' := [none, none]) (st' := [.ref l0]) bf165_79 bf165_80 rfl rfl).trans ?_
  exact bh bf165_80 bf165_83 rfl (fun _ _ => am_ge_rf w) rfl
theorem bk165_87 {w : am_Wd} {l0 : Nat} : am_run 165 87 [some (.ref l0), none] [] w = (am_kf w l0 6).bind fun _ => (am_x 128 [.ref l0] w).bind fun r => bct r fun v w' => am_run 165 91 [none, none] (v.toList ++ []) w' := by
  refine (bu (ls'' := [none, none]) (st' := [.ref l0]) bf165_87 bf165_88 rfl rfl).trans ?_
  exact bkV bf165_88 bf165_91 rfl (by decide +kernel) (Nat.le_of_ble_eq_true rfl) rfl (bhd rfl)
theorem bk165_95 {w : am_Wd} {l0 : Nat} : am_run 165 95 [some (.ref l0), none] [] w = (am_gf w l0 6 1).bind fun v => am_run 165 99 [none, none] (v :: []) w := by
  refine (bu (ls'' := [none, none]) (st' := [.ref l0]) bf165_95 bf165_96 rfl rfl).trans ?_
  exact bh bf165_96 bf165_99 rfl (fun _ _ => am_ge_rf w) rfl
theorem bk165_103 {w : am_Wd} {l0 : Nat} : am_run 165 103 [some (.ref l0), none] [] w = (am_gf w l0 6 1).bind fun v => am_run 165 107 [none, none] (v :: []) w := by
  refine (bu (ls'' := [none, none]) (st' := [.ref l0]) bf165_103 bf165_104 rfl rfl).trans ?_
  exact bh bf165_104 bf165_107 rfl (fun _ _ => am_ge_rf w) rfl
theorem bk165_126 {w : am_Wd} {l0 : Nat} : am_run 165 126 [some (.ref l0), none] [] w = (am_gf w l0 6 8).bind fun v => am_run 165 130 [none, none] (v :: []) w := by
  refine (bu (ls'' := [none, none]) (st' := [.ref l0]) bf165_126 bf165_127 rfl rfl).trans ?_
  exact bh bf165_127 bf165_130 rfl (fun _ _ => am_ge_rf w) rfl
theorem bk165_111 {w : am_Wd} {l0 : Nat} : am_run 165 111 [some (.ref l0), none] [] w = (am_gf w l0 6 5).bind fun v => am_run 165 115 [none, none] (v :: []) w := by
  refine (bu (ls'' := [none, none]) (st' := [.ref l0]) bf165_111 bf165_112 rfl rfl).trans ?_
  exact bh bf165_112 bf165_115 rfl (fun _ _ => am_ge_rf w) rfl
theorem bk165_116 {w : am_Wd} {l0 : Nat} : am_run 165 116 [some (.ref l0), none] [] w = (am_gf w l0 6 6).bind fun v => am_run 165 120 [none, none] (v :: []) w := by
  refine (bu (ls'' := [none, none]) (st' := [.ref l0]) bf165_116 bf165_117 rfl rfl).trans ?_
  exact bh bf165_117 bf165_120 rfl (fun _ _ => am_ge_rf w) rfl
theorem bk165_121 {w : am_Wd} {l0 : Nat} : am_run 165 121 [some (.ref l0), none] [] w = (am_gf w l0 6 7).bind fun v => am_run 165 125 [none, none] (v :: []) w := by
  refine (bu (ls'' := [none, none]) (st' := [.ref l0]) bf165_121 bf165_122 rfl rfl).trans ?_
  exact bh bf165_122 bf165_125 rfl (fun _ _ => am_ge_rf w) rfl
theorem bk165_68 {w : am_Wd} {s0 : Int32} : am_run 165 68 [none, none] [.int s0] w = some (.inl (some (.int s0)), w) := by
  exact am_e2 bf165_68 rfl (am_ge_rf w)
theorem bk165_73 {w : am_Wd} {s0 : Int32} : am_run 165 73 [none, none] [.int s0] w = some (.inl (some (.int s0)), w) := by
  exact am_e2 bf165_73 rfl (am_ge_rf w)
theorem bk165_78 {w : am_Wd} {s0 : Int32} : am_run 165 78 [none, none] [.int s0] w = some (.inl (some (.int s0)), w) := by
  exact am_e2 bf165_78 rfl (am_ge_rf w)
theorem bk165_83 {w : am_Wd} {s0 : Nat} : am_run 165 83 [none, none] [.ref s0] w = (am_kf w s0 4).bind fun _ => (am_x 72 [.ref s0] w).bind fun r => bct r fun v w' => am_run 165 86 [none, none] (v.toList ++ []) w' := by
  exact bkV bf165_83 bf165_86 rfl (by decide +kernel) (Nat.le_of_ble_eq_true rfl) rfl (bhd rfl)
theorem bk165_91 {w : am_Wd} {s0 : Int32} : am_run 165 91 [none, none] [.int s0] w = (am_x 26 [.int s0] w).bind fun r => bct r fun v w' => am_run 165 94 [none, none] (v.toList ++ []) w' := by
  exact bkS bf165_91 bf165_94 rfl (by decide +kernel) (Nat.le_of_ble_eq_true rfl) rfl (bhd rfl)
theorem bk165_99 {w : am_Wd} {s0 : Nat} : am_run 165 99 [none, none] [.ref s0] w = (am_kf w s0 7).bind fun _ => (am_x 83 [.ref s0] w).bind fun r => bct r fun v w' => am_run 165 102 [none, none] (v.toList ++ []) w' := by
  exact bkV bf165_99 bf165_102 rfl (by decide +kernel) (Nat.le_of_ble_eq_true rfl) rfl (bhd rfl)
theorem bk165_107 {w : am_Wd} {s0 : Nat} : am_run 165 107 [none, none] [.ref s0] w = (am_kf w s0 7).bind fun _ => (am_x 84 [.ref s0] w).bind fun r => bct r fun v w' => am_run 165 110 [none, none] (v.toList ++ []) w' := by
  exact bkV bf165_107 bf165_110 rfl (by decide +kernel) (Nat.le_of_ble_eq_true rfl) rfl (bhd rfl)
theorem bk165_130 {w : am_Wd} {s0 : Int32} : am_run 165 130 [none, none] [.int s0] w = some (.inl (some (.int s0)), w) := by
  exact am_e2 bf165_130 rfl (am_ge_rf w)
theorem bk165_115 {w : am_Wd} {s0 : Int32} : am_run 165 115 [none, none] [.int s0] w = some (.inl (some (.int s0)), w) := by
  exact am_e2 bf165_115 rfl (am_ge_rf w)
theorem bk165_120 {w : am_Wd} {s0 : Int32} : am_run 165 120 [none, none] [.int s0] w = some (.inl (some (.int s0)), w) := by
  exact am_e2 bf165_120 rfl (am_ge_rf w)
theorem bk165_125 {w : am_Wd} {s0 : Int32} : am_run 165 125 [none, none] [.int s0] w = some (.inl (some (.int s0)), w) := by
  exact am_e2 bf165_125 rfl (am_ge_rf w)
theorem bk165_86 {w : am_Wd} {s0 : Int32} : am_run 165 86 [none, none] [.int s0] w = some (.inl (some (.int s0)), w) := by
  exact am_e2 bf165_86 rfl (am_ge_rf w)
theorem bk165_94 {w : am_Wd} {s0 : Int32} : am_run 165 94 [none, none] [.int s0] w = some (.inl (some (.int s0)), w) := by
  exact am_e2 bf165_94 rfl (am_ge_rf w)
theorem bk165_102 {w : am_Wd} {s0 : Int32} : am_run 165 102 [none, none] [.int s0] w = some (.inl (some (.int s0)), w) := by
  exact am_e2 bf165_102 rfl (am_ge_rf w)
theorem bk165_110 {w : am_Wd} {s0 : Int32} : am_run 165 110 [none, none] [.int s0] w = some (.inl (some (.int s0)), w) := by
  exact am_e2 bf165_110 rfl (am_ge_rf w)
theorem bf166_0 : am_fetch (am_mth 166) 0 = some (.iload_n 1, 1, [], [5]) := by decide +kernel
theorem bf166_1 : am_fetch (am_mth 166) 1 = some (.invokestatic 26, 3, [0, 29, 1, 311, 312, 46], [5]) := by decide +kernel
theorem bf166_4 : am_fetch (am_mth 166) 4 = some (.iload_n 2, 1, [], [5]) := by decide +kernel
theorem bf166_5 : am_fetch (am_mth 166) 5 = some (.invokestatic 30, 3, [0, 30, 1, 330, 331, 46], [5]) := by decide +kernel
theorem bf166_8 : am_fetch (am_mth 166) 8 = some (.iload_n 1, 1, [], [5]) := by decide +kernel
theorem bf166_9 : am_fetch (am_mth 166) 9 = some (.iload_n 2, 1, [], [5]) := by decide +kernel
theorem bf166_10 : am_fetch (am_mth 166) 10 = some (.invokestatic 33, 3, [0, 13, 2, 504, 181, 57], [5]) := by decide +kernel
theorem bf166_13 : am_fetch (am_mth 166) 13 = some (.iconst (-1), 1, [], [5]) := by decide +kernel
theorem bf166_14 : am_fetch (am_mth 166) 14 = some (.if_icmp .eq 7, 3, [], [5]) := by decide +kernel
theorem bf166_17 : am_fetch (am_mth 166) 17 = some (.iconst 1, 1, [], [5]) := by decide +kernel
theorem bf166_18 : am_fetch (am_mth 166) 18 = some (.goto 4, 3, [], [5]) := by decide +kernel
theorem bf166_21 : am_fetch (am_mth 166) 21 = some (.iconst 0, 1, [], [5]) := by decide +kernel
theorem bf166_22 : am_fetch (am_mth 166) 22 = some (.invokestatic 39, 3, [0, 28, 1, 223, 224, 46], [5]) := by decide +kernel
theorem bf166_25 : am_fetch (am_mth 166) 25 = some (.iload_n 3, 1, [], [5]) := by decide +kernel
theorem bf166_26 : am_fetch (am_mth 166) 26 = some (.iconst 0, 1, [], [5]) := by decide +kernel
theorem bf166_27 : am_fetch (am_mth 166) 27 = some (.iconst 2, 1, [], [5]) := by decide +kernel
theorem bf166_28 : am_fetch (am_mth 166) 28 = some (.invokestatic 43, 3, [0, 92, 3, 220, 221, 46], [5]) := by decide +kernel
theorem bf166_31 : am_fetch (am_mth 166) 31 = some (.iload 4, 2, [], [5]) := by decide +kernel
theorem bf166_33 : am_fetch (am_mth 166) 33 = some (.iconst 0, 1, [], [5]) := by decide +kernel
theorem bf166_34 : am_fetch (am_mth 166) 34 = some (.ldc 47, 2, [0, 16777215, 505], [5]) := by decide +kernel
theorem bf166_36 : am_fetch (am_mth 166) 36 = some (.invokestatic 43, 3, [0, 92, 3, 220, 221, 46], [5]) := by decide +kernel
theorem bf166_39 : am_fetch (am_mth 166) 39 = some (.aload_n 0, 1, [], [5]) := by decide +kernel
theorem bf166_40 : am_fetch (am_mth 166) 40 = some (.getfield 10, 3, [0, 8, 0, 111], [5]) := by decide +kernel
theorem bf166_43 : am_fetch (am_mth 166) 43 = some (.iload_n 1, 1, [], [5]) := by decide +kernel
theorem bf166_44 : am_fetch (am_mth 166) 44 = some (.iload_n 2, 1, [], [5]) := by decide +kernel
theorem bf166_45 : am_fetch (am_mth 166) 45 = some (.invokevirtual 48, 3, [0, 124, 2, 5, 334, 335, 336, 47], [5]) := by decide +kernel
theorem bf166_48 : am_fetch (am_mth 166) 48 = some (.istore 5, 2, [], [5]) := by decide +kernel
theorem bf166_50 : am_fetch (am_mth 166) 50 = some (.aload_n 0, 1, [], []) := by decide +kernel
theorem bf166_51 : am_fetch (am_mth 166) 51 = some (.getfield 10, 3, [0, 8, 0, 111], [0]) := by decide +kernel
theorem bf166_54 : am_fetch (am_mth 166) 54 = some (.iload_n 1, 1, [], [0]) := by decide +kernel
theorem bf166_55 : am_fetch (am_mth 166) 55 = some (.iload_n 2, 1, [], [0, 1]) := by decide +kernel
theorem bf166_56 : am_fetch (am_mth 166) 56 = some (.iload_n 3, 1, [], [0, 1, 2]) := by decide +kernel
theorem bf166_57 : am_fetch (am_mth 166) 57 = some (.iload 4, 2, [], [0, 1, 2, 3]) := by decide +kernel
theorem bf166_59 : am_fetch (am_mth 166) 59 = some (.invokevirtual 51, 3, [0, 123, 4, 5, 506, 507, 508, 47], [0, 1, 2, 3, 4]) := by decide +kernel
theorem bf166_62 : am_fetch (am_mth 166) 62 = some (.iload 5, 2, [], [0, 1, 2, 3, 4]) := by decide +kernel
theorem bf166_64 : am_fetch (am_mth 166) 64 = some (.ireturn, 1, [0], [0, 1, 2, 3, 4, 5]) := by decide +kernel
theorem bk166_0 {w : am_Wd} {l0 : Nat} {l1 : Int32} {l2 : Int32} {l3 : Int32} {l4 : Int32} : am_run 166 0 [some (.ref l0), some (.int l1), some (.int l2), some (.int l3), some (.int l4), none] [] w = (am_x 29 [.int l1] w).bind fun r => bct r fun v w' => am_run 166 4 [some (.ref l0), some (.int l1), some (.int l2), some (.int l3), some (.int l4), none] (v.toList ++ []) w' := by
  refine (bu (ls'' := [some (.ref l0), some (.int l1), some (.int l2), some (.int l3), some (.int l4), none]) (st' := [.int l1]) bf166_0 bf166_1 rfl rfl).trans ?_
  exact bkS bf166_1 bf166_4 rfl (by decide +kernel) (Nat.le_of_ble_eq_true rfl) rfl (bhd rfl)
theorem bk166_4 {w : am_Wd} {l0 : Nat} {l1 : Int32} {l2 : Int32} {l3 : Int32} {l4 : Int32} : am_run 166 4 [some (.ref l0), some (.int l1), some (.int l2), some (.int l3), some (.int l4), none] [] w = (am_x 30 [.int l2] w).bind fun r => bct r fun v w' => am_run 166 8 [some (.ref l0), some (.int l1), some (.int l2), some (.int l3), some (.int l4), none] (v.toList ++ []) w' := by
  refine (bu (ls'' := [some (.ref l0), some (.int l1), some (.int l2), some (.int l3), some (.int l4), none]) (st' := [.int l2]) bf166_4 bf166_5 rfl rfl).trans ?_
  exact bkS bf166_5 bf166_8 rfl (by decide +kernel) (Nat.le_of_ble_eq_true rfl) rfl (bhd rfl)
theorem bk166_8 {w : am_Wd} {l0 : Nat} {l1 : Int32} {l2 : Int32} {l3 : Int32} {l4 : Int32} : am_run 166 8 [some (.ref l0), some (.int l1), some (.int l2), some (.int l3), some (.int l4), none] [] w = (am_x 13 [.int l1, .int l2] w).bind fun r => bct r fun v w' => am_run 166 13 [some (.ref l0), some (.int l1), some (.int l2), some (.int l3), some (.int l4), none] (v.toList ++ []) w' := by
  refine (bu (ls'' := [some (.ref l0), some (.int l1), some (.int l2), some (.int l3), some (.int l4), none]) (st' := [.int l1]) bf166_8 bf166_9 rfl rfl).trans ?_
  refine (bu (ls'' := [some (.ref l0), some (.int l1), some (.int l2), some (.int l3), some (.int l4), none]) (st' := [.int l2, .int l1]) bf166_9 bf166_10 rfl rfl).trans ?_
  exact bkS bf166_10 bf166_13 rfl (by decide +kernel) (Nat.le_of_ble_eq_true rfl) rfl (bhd rfl)
theorem bk166_13 {w : am_Wd} {l0 : Nat} {l1 : Int32} {l2 : Int32} {l3 : Int32} {l4 : Int32} {s0 : Int32} : am_run 166 13 [some (.ref l0), some (.int l1), some (.int l2), some (.int l3), some (.int l4), none] [.int s0] w = if s0 = (-1 : Int32) then am_run 166 21 [some (.ref l0), some (.int l1), some (.int l2), some (.int l3), some (.int l4), none] [] w else am_run 166 17 [some (.ref l0), some (.int l1), some (.int l2), some (.int l3), some (.int l4), none] [] w := by
  refine (bu (ls'' := [some (.ref l0), some (.int l1), some (.int l2), some (.int l3), some (.int l4), none]) (st' := [.int (-1 : Int32), .int s0]) bf166_13 bf166_14 rfl rfl).trans ?_
  exact bic bf166_14 rfl bf166_21 bf166_17 rfl rfl rfl
theorem bk166_21 {w : am_Wd} {l0 : Nat} {l1 : Int32} {l2 : Int32} {l3 : Int32} {l4 : Int32} : am_run 166 21 [some (.ref l0), some (.int l1), some (.int l2), some (.int l3), some (.int l4), none] [] w = am_run 166 22 [some (.ref l0), some (.int l1), some (.int l2), some (.int l3), some (.int l4), none] [.int (nI 0)] w := by
  refine (bu (ls'' := [some (.ref l0), some (.int l1), some (.int l2), some (.int l3), some (.int l4), none]) (st' := [.int (nI 0)]) bf166_21 bf166_22 rfl rfl).trans ?_
  rfl
theorem bk166_17 {w : am_Wd} {l0 : Nat} {l1 : Int32} {l2 : Int32} {l3 : Int32} {l4 : Int32} : am_run 166 17 [some (.ref l0), some (.int l1), some (.int l2), some (.int l3), some (.int l4), none] [] w = am_run 166 22 [some (.ref l0), some (.int l1), some (.int l2), some (.int l3), some (.int l4), none] [.int (nI 1)] w := by
  refine (bu (ls'' := [some (.ref l0), some (.int l1), some (.int l2), some (.int l3), some (.int l4), none]) (st' := [.int (nI 1)]) bf166_17 bf166_18 rfl rfl).trans ?_
  refine (bu (ls'' := [some (.ref l0), some (.int l1), some (.int l2), some (.int l3), some (.int l4), none]) (st' := [.int (nI 1)]) bf166_18 bf166_22 rfl rfl).trans ?_
  rfl
theorem bk166_22 {w : am_Wd} {l0 : Nat} {l1 : Int32} {l2 : Int32} {l3 : Int32} {l4 : Int32} {s0 : Int32} : am_run 166 22 [some (.ref l0), some (.int l1), some (.int l2), some (.int l3), some (.int l4), none] [.int s0] w = (am_x 28 [.int s0] w).bind fun r => bct r fun v w' => am_run 166 25 [some (.ref l0), some (.int l1), some (.int l2), some (.int l3), some (.int l4), none] (v.toList ++ []) w' := by
  exact bkS bf166_22 bf166_25 rfl (by decide +kernel) (Nat.le_of_ble_eq_true rfl) rfl (bhd rfl)
theorem bk166_25 {w : am_Wd} {l0 : Nat} {l1 : Int32} {l2 : Int32} {l3 : Int32} {l4 : Int32} : am_run 166 25 [some (.ref l0), some (.int l1), some (.int l2), some (.int l3), some (.int l4), none] [] w = (am_x 92 [.int l3, .int (nI 0), .int (nI 2)] w).bind fun r => bct r fun v w' => am_run 166 31 [some (.ref l0), some (.int l1), some (.int l2), some (.int l3), some (.int l4), none] (v.toList ++ []) w' := by
  refine (bu (ls'' := [some (.ref l0), some (.int l1), some (.int l2), some (.int l3), some (.int l4), none]) (st' := [.int l3]) bf166_25 bf166_26 rfl rfl).trans ?_
  refine (bu (ls'' := [some (.ref l0), some (.int l1), some (.int l2), some (.int l3), some (.int l4), none]) (st' := [.int (nI 0), .int l3]) bf166_26 bf166_27 rfl rfl).trans ?_
  refine (bu (ls'' := [some (.ref l0), some (.int l1), some (.int l2), some (.int l3), some (.int l4), none]) (st' := [.int (nI 2), .int (nI 0), .int l3]) bf166_27 bf166_28 rfl rfl).trans ?_
  exact bkS bf166_28 bf166_31 rfl (by decide +kernel) (Nat.le_of_ble_eq_true rfl) rfl (bhd rfl)
theorem bk166_31 {w : am_Wd} {l0 : Nat} {l1 : Int32} {l2 : Int32} {l3 : Int32} {l4 : Int32} : am_run 166 31 [some (.ref l0), some (.int l1), some (.int l2), some (.int l3), some (.int l4), none] [] w = (am_x 92 [.int l4, .int (nI 0), .int (nI 16777215)] w).bind fun r => bct r fun v w' => am_run 166 39 [some (.ref l0), some (.int l1), some (.int l2), some (.int l3), some (.int l4), none] (v.toList ++ []) w' := by
  refine (bu (ls'' := [some (.ref l0), some (.int l1), some (.int l2), some (.int l3), some (.int l4), none]) (st' := [.int l4]) bf166_31 bf166_33 rfl rfl).trans ?_
  refine (bu (ls'' := [some (.ref l0), some (.int l1), some (.int l2), some (.int l3), some (.int l4), none]) (st' := [.int (nI 0), .int l4]) bf166_33 bf166_34 rfl rfl).trans ?_
  refine (bu (ls'' := [some (.ref l0), some (.int l1), some (.int l2), some (.int l3), some (.int l4), none]) (st' := [.int (nI 16777215), .int (nI 0), .int l4]) bf166_34 bf166_36 rfl rfl).trans ?_
  exact bkS bf166_36 bf166_39 rfl (by decide +kernel) (Nat.le_of_ble_eq_true rfl) rfl (bhd rfl)
theorem bk166_39 {w : am_Wd} {l0 : Nat} {l1 : Int32} {l2 : Int32} {l3 : Int32} {l4 : Int32} : am_run 166 39 [some (.ref l0), some (.int l1), some (.int l2), some (.int l3), some (.int l4), none] [] w = (am_gf w l0 8 0).bind fun v => am_run 166 43 [some (.ref l0), some (.int l1), some (.int l2), some (.int l3), some (.int l4), none] (v :: []) w := by
  refine (bu (ls'' := [some (.ref l0), some (.int l1), some (.int l2), some (.int l3), some (.int l4), none]) (st' := [.ref l0]) bf166_39 bf166_40 rfl rfl).trans ?_
  exact bh bf166_40 bf166_43 rfl (fun _ _ => am_ge_rf w) rfl
theorem bk166_43 {w : am_Wd} {l0 : Nat} {l1 : Int32} {l2 : Int32} {l3 : Int32} {l4 : Int32} {s0 : Nat} : am_run 166 43 [some (.ref l0), some (.int l1), some (.int l2), some (.int l3), some (.int l4), none] [.ref s0] w = (am_kf w s0 5).bind fun _ => (am_x 124 [.ref s0, .int l1, .int l2] w).bind fun r => bct r fun v w' => am_run 166 48 [some (.ref l0), some (.int l1), some (.int l2), some (.int l3), some (.int l4), none] (v.toList ++ []) w' := by
  refine (bu (ls'' := [some (.ref l0), some (.int l1), some (.int l2), some (.int l3), some (.int l4), none]) (st' := [.int l1, .ref s0]) bf166_43 bf166_44 rfl rfl).trans ?_
  refine (bu (ls'' := [some (.ref l0), some (.int l1), some (.int l2), some (.int l3), some (.int l4), none]) (st' := [.int l2, .int l1, .ref s0]) bf166_44 bf166_45 rfl rfl).trans ?_
  exact bkV bf166_45 bf166_48 rfl (by decide +kernel) (Nat.le_of_ble_eq_true rfl) rfl (bhd rfl)
theorem bk166_48 {w : am_Wd} {l0 : Nat} {l1 : Int32} {l2 : Int32} {l3 : Int32} {l4 : Int32} {s0 : Int32} : am_run 166 48 [some (.ref l0), some (.int l1), some (.int l2), some (.int l3), some (.int l4), none] [.int s0] w = (am_gf w l0 8 0).bind fun v => am_run 166 54 [none, some (.int l1), some (.int l2), some (.int l3), some (.int l4), some (.int s0)] (v :: []) w := by
  refine (bu (ls'' := [some (.ref l0), some (.int l1), some (.int l2), some (.int l3), some (.int l4), some (.int s0)]) (st' := []) bf166_48 bf166_50 rfl rfl).trans ?_
  refine (bu (ls'' := [none, some (.int l1), some (.int l2), some (.int l3), some (.int l4), some (.int s0)]) (st' := [.ref l0]) bf166_50 bf166_51 rfl rfl).trans ?_
  exact bh bf166_51 bf166_54 rfl (fun _ _ => am_ge_rf w) rfl
theorem bk166_54 {w : am_Wd} {l1 : Int32} {l2 : Int32} {l3 : Int32} {l4 : Int32} {l5 : Int32} {s0 : Nat} : am_run 166 54 [none, some (.int l1), some (.int l2), some (.int l3), some (.int l4), some (.int l5)] [.ref s0] w = (am_kf w s0 5).bind fun _ => (am_x 123 [.ref s0, .int l1, .int l2, .int l3, .int l4] w).bind fun r => bct r fun v w' => am_run 166 62 [none, none, none, none, none, some (.int l5)] (v.toList ++ []) w' := by
  refine (bu (ls'' := [none, none, some (.int l2), some (.int l3), some (.int l4), some (.int l5)]) (st' := [.int l1, .ref s0]) bf166_54 bf166_55 rfl rfl).trans ?_
  refine (bu (ls'' := [none, none, none, some (.int l3), some (.int l4), some (.int l5)]) (st' := [.int l2, .int l1, .ref s0]) bf166_55 bf166_56 rfl rfl).trans ?_
  refine (bu (ls'' := [none, none, none, none, some (.int l4), some (.int l5)]) (st' := [.int l3, .int l2, .int l1, .ref s0]) bf166_56 bf166_57 rfl rfl).trans ?_
  refine (bu (ls'' := [none, none, none, none, none, some (.int l5)]) (st' := [.int l4, .int l3, .int l2, .int l1, .ref s0]) bf166_57 bf166_59 rfl rfl).trans ?_
  exact bkV bf166_59 bf166_62 rfl (by decide +kernel) (Nat.le_of_ble_eq_true rfl) rfl (bhd rfl)
theorem bk166_62 {w : am_Wd} {l5 : Int32} : am_run 166 62 [none, none, none, none, none, some (.int l5)] [] w = some (.inl (some (.int l5)), w) := by
  refine (bu (ls'' := [none, none, none, none, none, none]) (st' := [.int l5]) bf166_62 bf166_64 rfl rfl).trans ?_
  exact am_e2 bf166_64 rfl (am_ge_rf w)
theorem bf167_0 : am_fetch (am_mth 167) 0 = some (.iload_n 1, 1, [], [5]) := by decide +kernel
theorem bf167_1 : am_fetch (am_mth 167) 1 = some (.invokestatic 26, 3, [0, 29, 1, 311, 312, 46], [5]) := by decide +kernel
theorem bf167_4 : am_fetch (am_mth 167) 4 = some (.iload_n 2, 1, [], [5]) := by decide +kernel
theorem bf167_5 : am_fetch (am_mth 167) 5 = some (.iconst 0, 1, [], [5]) := by decide +kernel
theorem bf167_6 : am_fetch (am_mth 167) 6 = some (.iconst 3, 1, [], [5]) := by decide +kernel
theorem bf167_7 : am_fetch (am_mth 167) 7 = some (.invokestatic 43, 3, [0, 92, 3, 220, 221, 46], [5]) := by decide +kernel
theorem bf167_10 : am_fetch (am_mth 167) 10 = some (.iload_n 3, 1, [], [5]) := by decide +kernel
theorem bf167_11 : am_fetch (am_mth 167) 11 = some (.iconst 1, 1, [], [5]) := by decide +kernel
theorem bf167_12 : am_fetch (am_mth 167) 12 = some (.sipush 500, 3, [], [5]) := by decide +kernel
theorem bf167_15 : am_fetch (am_mth 167) 15 = some (.invokestatic 43, 3, [0, 92, 3, 220, 221, 46], [5]) := by decide +kernel
theorem bf167_18 : am_fetch (am_mth 167) 18 = some (.aload_n 0, 1, [], [5]) := by decide +kernel
theorem bf167_19 : am_fetch (am_mth 167) 19 = some (.getfield 76, 3, [0, 8, 2, 113], [5]) := by decide +kernel
theorem bf167_22 : am_fetch (am_mth 167) 22 = some (.istore 5, 2, [], [5]) := by decide +kernel
theorem bf167_24 : am_fetch (am_mth 167) 24 = some (.iload 5, 2, [], []) := by decide +kernel
theorem bf167_26 : am_fetch (am_mth 167) 26 = some (.ifCond .lt 13, 3, [], []) := by decide +kernel
theorem bf167_29 : am_fetch (am_mth 167) 29 = some (.iload 5, 2, [], []) := by decide +kernel
theorem bf167_31 : am_fetch (am_mth 167) 31 = some (.aload_n 0, 1, [], []) := by decide +kernel
theorem bf167_32 : am_fetch (am_mth 167) 32 = some (.getfield 18, 3, [0, 8, 1, 112], []) := by decide +kernel
theorem bf167_35 : am_fetch (am_mth 167) 35 = some (.arraylength, 1, [], []) := by decide +kernel
theorem bf167_36 : am_fetch (am_mth 167) 36 = some (.if_icmp .lt 13, 3, [], []) := by decide +kernel
theorem bf167_39 : am_fetch (am_mth 167) 39 = some (.new 79, 3, [1, 2, 545, 62, 554, 81, 83], [0, 1, 2, 3, 4, 5]) := by decide +kernel
theorem bf167_42 : am_fetch (am_mth 167) 42 = some (.dup, 1, [], [0, 1, 2, 3, 4, 5]) := by decide +kernel
theorem bf167_43 : am_fetch (am_mth 167) 43 = some (.ldc 81, 2, [1, 10, 554], [0, 1, 2, 3, 4, 5]) := by decide +kernel
theorem bf167_45 : am_fetch (am_mth 167) 45 = some (.invokespecial 83, 3, [], [0, 1, 2, 3, 4, 5]) := by decide +kernel
theorem bf167_48 : am_fetch (am_mth 167) 48 = some (.athrow, 1, [], [0, 1, 2, 3, 4, 5]) := by decide +kernel
theorem bf167_49 : am_fetch (am_mth 167) 49 = some (.aload_n 0, 1, [], []) := by decide +kernel
theorem bf167_50 : am_fetch (am_mth 167) 50 = some (.getfield 18, 3, [0, 8, 1, 112], []) := by decide +kernel
theorem bf167_53 : am_fetch (am_mth 167) 53 = some (.iload 5, 2, [], []) := by decide +kernel
theorem bf167_55 : am_fetch (am_mth 167) 55 = some (.new 16, 3, [0, 6, 9, 109, 561, 63], []) := by decide +kernel
theorem bf167_58 : am_fetch (am_mth 167) 58 = some (.dup, 1, [], []) := by decide +kernel
theorem bf167_59 : am_fetch (am_mth 167) 59 = some (.iload_n 1, 1, [], []) := by decide +kernel
theorem bf167_60 : am_fetch (am_mth 167) 60 = some (.iload_n 2, 1, [], [1]) := by decide +kernel
theorem bf167_61 : am_fetch (am_mth 167) 61 = some (.iload_n 3, 1, [], [1, 2]) := by decide +kernel
theorem bf167_62 : am_fetch (am_mth 167) 62 = some (.iload 4, 2, [], [1, 2, 3]) := by decide +kernel
theorem bf167_64 : am_fetch (am_mth 167) 64 = some (.invokespecial 86, 3, [0, 127, 4, 562, 563, 63], [1, 2, 3, 4]) := by decide +kernel
theorem bf167_67 : am_fetch (am_mth 167) 67 = some (.aastore, 1, [4, 6, 0], [1, 2, 3, 4]) := by decide +kernel
theorem bf167_68 : am_fetch (am_mth 167) 68 = some (.aload_n 0, 1, [], [1, 2, 3, 4]) := by decide +kernel
theorem bf167_69 : am_fetch (am_mth 167) 69 = some (.iload 5, 2, [], [0, 1, 2, 3, 4]) := by decide +kernel
theorem bf167_71 : am_fetch (am_mth 167) 71 = some (.iconst 1, 1, [], [0, 1, 2, 3, 4]) := by decide +kernel
theorem bf167_72 : am_fetch (am_mth 167) 72 = some (.iadd, 1, [], [0, 1, 2, 3, 4]) := by decide +kernel
theorem bf167_73 : am_fetch (am_mth 167) 73 = some (.putfield 76, 3, [0, 8, 2, 113], [0, 1, 2, 3, 4]) := by decide +kernel
theorem bf167_76 : am_fetch (am_mth 167) 76 = some (.iload 5, 2, [], [0, 1, 2, 3, 4]) := by decide +kernel
theorem bf167_78 : am_fetch (am_mth 167) 78 = some (.ireturn, 1, [0], [0, 1, 2, 3, 4, 5]) := by decide +kernel
theorem bk167_0 {w : am_Wd} {l0 : Nat} {l1 : Int32} {l2 : Int32} {l3 : Int32} {l4 : Int32} : am_run 167 0 [some (.ref l0), some (.int l1), some (.int l2), some (.int l3), some (.int l4), none] [] w = (am_x 29 [.int l1] w).bind fun r => bct r fun v w' => am_run 167 4 [some (.ref l0), some (.int l1), some (.int l2), some (.int l3), some (.int l4), none] (v.toList ++ []) w' := by
  refine (bu (ls'' := [some (.ref l0), some (.int l1), some (.int l2), some (.int l3), some (.int l4), none]) (st' := [.int l1]) bf167_0 bf167_1 rfl rfl).trans ?_
  exact bkS bf167_1 bf167_4 rfl (by decide +kernel) (Nat.le_of_ble_eq_true rfl) rfl (bhd rfl)
theorem bk167_4 {w : am_Wd} {l0 : Nat} {l1 : Int32} {l2 : Int32} {l3 : Int32} {l4 : Int32} : am_run 167 4 [some (.ref l0), some (.int l1), some (.int l2), some (.int l3), some (.int l4), none] [] w = (am_x 92 [.int l2, .int (nI 0), .int (nI 3)] w).bind fun r => bct r fun v w' => am_run 167 10 [some (.ref l0), some (.int l1), some (.int l2), some (.int l3), some (.int l4), none] (v.toList ++ []) w' := by
  refine (bu (ls'' := [some (.ref l0), some (.int l1), some (.int l2), some (.int l3), some (.int l4), none]) (st' := [.int l2]) bf167_4 bf167_5 rfl rfl).trans ?_
  refine (bu (ls'' := [some (.ref l0), some (.int l1), some (.int l2), some (.int l3), some (.int l4), none]) (st' := [.int (nI 0), .int l2]) bf167_5 bf167_6 rfl rfl).trans ?_
  refine (bu (ls'' := [some (.ref l0), some (.int l1), some (.int l2), some (.int l3), some (.int l4), none]) (st' := [.int (nI 3), .int (nI 0), .int l2]) bf167_6 bf167_7 rfl rfl).trans ?_
  exact bkS bf167_7 bf167_10 rfl (by decide +kernel) (Nat.le_of_ble_eq_true rfl) rfl (bhd rfl)
theorem bk167_10 {w : am_Wd} {l0 : Nat} {l1 : Int32} {l2 : Int32} {l3 : Int32} {l4 : Int32} : am_run 167 10 [some (.ref l0), some (.int l1), some (.int l2), some (.int l3), some (.int l4), none] [] w = (am_x 92 [.int l3, .int (nI 1), .int (nI 500)] w).bind fun r => bct r fun v w' => am_run 167 18 [some (.ref l0), some (.int l1), some (.int l2), some (.int l3), some (.int l4), none] (v.toList ++ []) w' := by
  refine (bu (ls'' := [some (.ref l0), some (.int l1), some (.int l2), some (.int l3), some (.int l4), none]) (st' := [.int l3]) bf167_10 bf167_11 rfl rfl).trans ?_
  refine (bu (ls'' := [some (.ref l0), some (.int l1), some (.int l2), some (.int l3), some (.int l4), none]) (st' := [.int (nI 1), .int l3]) bf167_11 bf167_12 rfl rfl).trans ?_
  refine (bu (ls'' := [some (.ref l0), some (.int l1), some (.int l2), some (.int l3), some (.int l4), none]) (st' := [.int (nI 500), .int (nI 1), .int l3]) bf167_12 bf167_15 rfl rfl).trans ?_
  exact bkS bf167_15 bf167_18 rfl (by decide +kernel) (Nat.le_of_ble_eq_true rfl) rfl (bhd rfl)
theorem bk167_18 {w : am_Wd} {l0 : Nat} {l1 : Int32} {l2 : Int32} {l3 : Int32} {l4 : Int32} : am_run 167 18 [some (.ref l0), some (.int l1), some (.int l2), some (.int l3), some (.int l4), none] [] w = (am_gf w l0 8 2).bind fun v => am_run 167 22 [some (.ref l0), some (.int l1), some (.int l2), some (.int l3), some (.int l4), none] (v :: []) w := by
  refine (bu (ls'' := [some (.ref l0), some (.int l1), some (.int l2), some (.int l3), some (.int l4), none]) (st' := [.ref l0]) bf167_18 bf167_19 rfl rfl).trans ?_
  exact bh bf167_19 bf167_22 rfl (fun _ _ => am_ge_rf w) rfl
theorem bk167_22 {w : am_Wd} {l0 : Nat} {l1 : Int32} {l2 : Int32} {l3 : Int32} {l4 : Int32} {s0 : Int32} : am_run 167 22 [some (.ref l0), some (.int l1), some (.int l2), some (.int l3), some (.int l4), none] [.int s0] w = if s0 < nI 0 then am_run 167 39 [none, none, none, none, none, none] [] w else am_run 167 29 [some (.ref l0), some (.int l1), some (.int l2), some (.int l3), some (.int l4), some (.int s0)] [] w := by
  refine (bu (ls'' := [some (.ref l0), some (.int l1), some (.int l2), some (.int l3), some (.int l4), some (.int s0)]) (st' := []) bf167_22 bf167_24 rfl rfl).trans ?_
  refine (bu (ls'' := [some (.ref l0), some (.int l1), some (.int l2), some (.int l3), some (.int l4), some (.int s0)]) (st' := [.int s0]) bf167_24 bf167_26 rfl rfl).trans ?_
  exact bifc bf167_26 rfl bf167_39 bf167_29 rfl rfl rfl
theorem bk167_39 {w : am_Wd}  : am_run 167 39 [none, none, none, none, none, none] [] w = some (.inr (am_xn 2), am_jk w 1 6) := by
  exact am_e2 bf167_39 rfl (am_ge_jk _ _ _)
theorem bk167_29 {w : am_Wd} {l0 : Nat} {l1 : Int32} {l2 : Int32} {l3 : Int32} {l4 : Int32} {l5 : Int32} : am_run 167 29 [some (.ref l0), some (.int l1), some (.int l2), some (.int l3), some (.int l4), some (.int l5)] [] w = (am_gf w l0 8 1).bind fun v => am_run 167 35 [some (.ref l0), some (.int l1), some (.int l2), some (.int l3), some (.int l4), some (.int l5)] (v :: [.int l5]) w := by
  refine (bu (ls'' := [some (.ref l0), some (.int l1), some (.int l2), some (.int l3), some (.int l4), some (.int l5)]) (st' := [.int l5]) bf167_29 bf167_31 rfl rfl).trans ?_
  refine (bu (ls'' := [some (.ref l0), some (.int l1), some (.int l2), some (.int l3), some (.int l4), some (.int l5)]) (st' := [.ref l0, .int l5]) bf167_31 bf167_32 rfl rfl).trans ?_
  exact bh bf167_32 bf167_35 rfl (fun _ _ => am_ge_rf w) rfl
theorem bk167_35 {w : am_Wd} {l0 : Nat} {l1 : Int32} {l2 : Int32} {l3 : Int32} {l4 : Int32} {l5 : Int32} {s0 : Nat} {s1 : Int32} : am_run 167 35 [some (.ref l0), some (.int l1), some (.int l2), some (.int l3), some (.int l4), some (.int l5)] [.ref s0, .int s1] w = (am_len w s0).bind fun v => am_run 167 36 [some (.ref l0), some (.int l1), some (.int l2), some (.int l3), some (.int l4), some (.int l5)] (.int (nI v) :: [.int s1]) w := by
  exact bh bf167_35 bf167_36 rfl (fun _ _ => am_ge_rf w) rfl
theorem bk167_36 {w : am_Wd} {l0 : Nat} {l1 : Int32} {l2 : Int32} {l3 : Int32} {l4 : Int32} {l5 : Int32} {s0 : Int32} {s1 : Int32} : am_run 167 36 [some (.ref l0), some (.int l1), some (.int l2), some (.int l3), some (.int l4), some (.int l5)] [.int s0, .int s1] w = if s1 < s0 then am_run 167 49 [some (.ref l0), some (.int l1), some (.int l2), some (.int l3), some (.int l4), some (.int l5)] [] w else am_run 167 39 [none, none, none, none, none, none] [] w := by
  exact bic bf167_36 rfl bf167_49 bf167_39 rfl rfl rfl
theorem bk167_49 {w : am_Wd} {l0 : Nat} {l1 : Int32} {l2 : Int32} {l3 : Int32} {l4 : Int32} {l5 : Int32} : am_run 167 49 [some (.ref l0), some (.int l1), some (.int l2), some (.int l3), some (.int l4), some (.int l5)] [] w = (am_gf w l0 8 1).bind fun v => am_run 167 53 [some (.ref l0), some (.int l1), some (.int l2), some (.int l3), some (.int l4), some (.int l5)] (v :: []) w := by
  refine (bu (ls'' := [some (.ref l0), some (.int l1), some (.int l2), some (.int l3), some (.int l4), some (.int l5)]) (st' := [.ref l0]) bf167_49 bf167_50 rfl rfl).trans ?_
  exact bh bf167_50 bf167_53 rfl (fun _ _ => am_ge_rf w) rfl
theorem bk167_53 {w : am_Wd} {l0 : Nat} {l1 : Int32} {l2 : Int32} {l3 : Int32} {l4 : Int32} {l5 : Int32} {s0 : Nat} : am_run 167 53 [some (.ref l0), some (.int l1), some (.int l2), some (.int l3), some (.int l4), some (.int l5)] [.ref s0] w = am_run 167 58 [some (.ref l0), some (.int l1), some (.int l2), some (.int l3), some (.int l4), some (.int l5)] (.ref w.2.1 :: [.int l5, .ref s0]) (am_nw w (.inr (6, am_df 6 9)) 9) := by
  refine (bu (ls'' := [some (.ref l0), some (.int l1), some (.int l2), some (.int l3), some (.int l4), some (.int l5)]) (st' := [.int l5, .ref s0]) bf167_53 bf167_55 rfl rfl).trans ?_
  exact bn bf167_55 bf167_58 rfl rfl (am_ge_nw _ _ _)
theorem bk167_58 {w : am_Wd} {l0 : Nat} {l1 : Int32} {l2 : Int32} {l3 : Int32} {l4 : Int32} {l5 : Int32} {s0 : Nat} {s1 : Int32} {s2 : Nat} : am_run 167 58 [some (.ref l0), some (.int l1), some (.int l2), some (.int l3), some (.int l4), some (.int l5)] [.ref s0, .int s1, .ref s2] w = (am_x 127 [.ref s0, .int l1, .int l2, .int l3, .int l4] w).bind fun r => bct r fun v w' => am_run 167 67 [some (.ref l0), none, none, none, none, some (.int l5)] (v.toList ++ [.ref s0, .int s1, .ref s2]) w' := by
  refine (bu (ls'' := [some (.ref l0), some (.int l1), some (.int l2), some (.int l3), some (.int l4), some (.int l5)]) (st' := [.ref s0, .ref s0, .int s1, .ref s2]) bf167_58 bf167_59 rfl rfl).trans ?_
  refine (bu (ls'' := [some (.ref l0), none, some (.int l2), some (.int l3), some (.int l4), some (.int l5)]) (st' := [.int l1, .ref s0, .ref s0, .int s1, .ref s2]) bf167_59 bf167_60 rfl rfl).trans ?_
  refine (bu (ls'' := [some (.ref l0), none, none, some (.int l3), some (.int l4), some (.int l5)]) (st' := [.int l2, .int l1, .ref s0, .ref s0, .int s1, .ref s2]) bf167_60 bf167_61 rfl rfl).trans ?_
  refine (bu (ls'' := [some (.ref l0), none, none, none, some (.int l4), some (.int l5)]) (st' := [.int l3, .int l2, .int l1, .ref s0, .ref s0, .int s1, .ref s2]) bf167_61 bf167_62 rfl rfl).trans ?_
  refine (bu (ls'' := [some (.ref l0), none, none, none, none, some (.int l5)]) (st' := [.int l4, .int l3, .int l2, .int l1, .ref s0, .ref s0, .int s1, .ref s2]) bf167_62 bf167_64 rfl rfl).trans ?_
  exact bkS bf167_64 bf167_67 rfl (by decide +kernel) (Nat.le_of_ble_eq_true rfl) rfl (bhd rfl)
theorem bk167_67 {w : am_Wd} {l0 : Nat} {l5 : Int32} {s0 : Nat} {s1 : Int32} {s2 : Nat} : am_run 167 67 [some (.ref l0), none, none, none, none, some (.int l5)] [.ref s0, .int s1, .ref s2] w = (am_wq 4 6 w s2 s1 s0).bind fun w' => am_run 167 68 [some (.ref l0), none, none, none, none, some (.int l5)] [] w' := by
  exact bh bf167_67 bf167_68 rfl (bge_wq) rfl
theorem bk167_68 {w : am_Wd} {l0 : Nat} {l5 : Int32} : am_run 167 68 [some (.ref l0), none, none, none, none, some (.int l5)] [] w = (am_pf w l0 8 2 (.int (l5 + (nI 1)))).bind fun w' => am_run 167 76 [none, none, none, none, none, some (.int l5)] [] w' := by
  refine (bu (ls'' := [none, none, none, none, none, some (.int l5)]) (st' := [.ref l0]) bf167_68 bf167_69 rfl rfl).trans ?_
  refine (bu (ls'' := [none, none, none, none, none, some (.int l5)]) (st' := [.int l5, .ref l0]) bf167_69 bf167_71 rfl rfl).trans ?_
  refine (bu (ls'' := [none, none, none, none, none, some (.int l5)]) (st' := [.int (nI 1), .int l5, .ref l0]) bf167_71 bf167_72 rfl rfl).trans ?_
  refine (bu (ls'' := [none, none, none, none, none, some (.int l5)]) (st' := [.int (l5 + (nI 1)), .ref l0]) bf167_72 bf167_73 rfl rfl).trans ?_
  exact bh bf167_73 bf167_76 rfl (bge_pf) rfl
theorem bk167_76 {w : am_Wd} {l5 : Int32} : am_run 167 76 [none, none, none, none, none, some (.int l5)] [] w = some (.inl (some (.int l5)), w) := by
  refine (bu (ls'' := [none, none, none, none, none, none]) (st' := [.int l5]) bf167_76 bf167_78 rfl rfl).trans ?_
  exact am_e2 bf167_78 rfl (am_ge_rf w)
theorem bf168_0 : am_fetch (am_mth 168) 0 = some (.aload_n 0, 1, [], [3, 4]) := by decide +kernel
theorem bf168_1 : am_fetch (am_mth 168) 1 = some (.iload_n 1, 1, [], [3, 4]) := by decide +kernel
theorem bf168_2 : am_fetch (am_mth 168) 2 = some (.invokevirtual 89, 3, [0, 31, 1, 8, 352, 354, 4, 46], [3, 4]) := by decide +kernel
theorem bf168_5 : am_fetch (am_mth 168) 5 = some (.astore_n 3, 1, [], [3, 4]) := by decide +kernel
theorem bf168_6 : am_fetch (am_mth 168) 6 = some (.aload_n 0, 1, [], [4]) := by decide +kernel
theorem bf168_7 : am_fetch (am_mth 168) 7 = some (.iload_n 2, 1, [], [4]) := by decide +kernel
theorem bf168_8 : am_fetch (am_mth 168) 8 = some (.invokevirtual 89, 3, [0, 31, 1, 8, 352, 354, 4, 46], [4]) := by decide +kernel
theorem bf168_11 : am_fetch (am_mth 168) 11 = some (.astore 4, 2, [], [4]) := by decide +kernel
theorem bf168_13 : am_fetch (am_mth 168) 13 = some (.iload_n 1, 1, [], []) := by decide +kernel
theorem bf168_14 : am_fetch (am_mth 168) 14 = some (.iload_n 2, 1, [], [1]) := by decide +kernel
theorem bf168_15 : am_fetch (am_mth 168) 15 = some (.if_icmp .eq 7, 3, [], [1, 2]) := by decide +kernel
theorem bf168_18 : am_fetch (am_mth 168) 18 = some (.iconst 1, 1, [], [1, 2]) := by decide +kernel
theorem bf168_19 : am_fetch (am_mth 168) 19 = some (.goto 4, 3, [], [1, 2]) := by decide +kernel
theorem bf168_22 : am_fetch (am_mth 168) 22 = some (.iconst 0, 1, [], [1, 2]) := by decide +kernel
theorem bf168_23 : am_fetch (am_mth 168) 23 = some (.invokestatic 39, 3, [0, 28, 1, 223, 224, 46], [1, 2]) := by decide +kernel
theorem bf168_26 : am_fetch (am_mth 168) 26 = some (.aload_n 3, 1, [], [1, 2]) := by decide +kernel
theorem bf168_27 : am_fetch (am_mth 168) 27 = some (.invokevirtual 167, 3, [0, 128, 0, 6, 793, 362, 363, 63], [1, 2]) := by decide +kernel
theorem bf168_30 : am_fetch (am_mth 168) 30 = some (.ifCond .eq 23, 3, [], [1, 2]) := by decide +kernel
theorem bf168_33 : am_fetch (am_mth 168) 33 = some (.aload 4, 2, [], [1, 2]) := by decide +kernel
theorem bf168_35 : am_fetch (am_mth 168) 35 = some (.invokevirtual 167, 3, [0, 128, 0, 6, 793, 362, 363, 63], [1, 2]) := by decide +kernel
theorem bf168_38 : am_fetch (am_mth 168) 38 = some (.ifCond .eq 15, 3, [], [1, 2]) := by decide +kernel
theorem bf168_41 : am_fetch (am_mth 168) 41 = some (.aload_n 3, 1, [], [1, 2]) := by decide +kernel
theorem bf168_42 : am_fetch (am_mth 168) 42 = some (.invokevirtual 103, 3, [0, 17, 0, 6, 667, 668, 669, 63], [1, 2]) := by decide +kernel
theorem bf168_45 : am_fetch (am_mth 168) 45 = some (.aload 4, 2, [], [1, 2]) := by decide +kernel
theorem bf168_47 : am_fetch (am_mth 168) 47 = some (.invokevirtual 103, 3, [0, 17, 0, 6, 667, 668, 669, 63], [1, 2]) := by decide +kernel
theorem bf168_50 : am_fetch (am_mth 168) 50 = some (.if_icmp .eq 13, 3, [], [1, 2]) := by decide +kernel
theorem bf168_53 : am_fetch (am_mth 168) 53 = some (.new 79, 3, [1, 2, 545, 62, 794, 171, 83], [0, 1, 2, 3, 4]) := by decide +kernel
theorem bf168_56 : am_fetch (am_mth 168) 56 = some (.dup, 1, [], [0, 1, 2, 3, 4]) := by decide +kernel
theorem bf168_57 : am_fetch (am_mth 168) 57 = some (.ldc 171, 2, [1, 13, 794], [0, 1, 2, 3, 4]) := by decide +kernel
theorem bf168_59 : am_fetch (am_mth 168) 59 = some (.invokespecial 83, 3, [], [0, 1, 2, 3, 4]) := by decide +kernel
theorem bf168_62 : am_fetch (am_mth 168) 62 = some (.athrow, 1, [], [0, 1, 2, 3, 4]) := by decide +kernel
theorem bf168_63 : am_fetch (am_mth 168) 63 = some (.aload_n 0, 1, [], [1, 2]) := by decide +kernel
theorem bf168_64 : am_fetch (am_mth 168) 64 = some (.dup, 1, [], [1, 2]) := by decide +kernel
theorem bf168_65 : am_fetch (am_mth 168) 65 = some (.getfield 173, 3, [0, 8, 6, 117], [1, 2]) := by decide +kernel
theorem bf168_68 : am_fetch (am_mth 168) 68 = some (.iconst 1, 1, [], [1, 2]) := by decide +kernel
theorem bf168_69 : am_fetch (am_mth 168) 69 = some (.iadd, 1, [], [1, 2]) := by decide +kernel
theorem bf168_70 : am_fetch (am_mth 168) 70 = some (.putfield 173, 3, [0, 8, 6, 117], [1, 2]) := by decide +kernel
theorem bf168_73 : am_fetch (am_mth 168) 73 = some (.aload_n 0, 1, [], [1, 2]) := by decide +kernel
theorem bf168_74 : am_fetch (am_mth 168) 74 = some (.dup, 1, [], [0, 1, 2]) := by decide +kernel
theorem bf168_75 : am_fetch (am_mth 168) 75 = some (.getfield 176, 3, [0, 8, 7, 118], [0, 1, 2]) := by decide +kernel
theorem bf168_78 : am_fetch (am_mth 168) 78 = some (.aload_n 3, 1, [], [0, 1, 2]) := by decide +kernel
theorem bf168_79 : am_fetch (am_mth 168) 79 = some (.getfield 179, 3, [1, 6, 1, 613], [0, 1, 2]) := by decide +kernel
theorem bf168_82 : am_fetch (am_mth 168) 82 = some (.aload 4, 2, [], [0, 1, 2]) := by decide +kernel
theorem bf168_84 : am_fetch (am_mth 168) 84 = some (.getfield 179, 3, [1, 6, 1, 613], [0, 1, 2]) := by decide +kernel
theorem bf168_87 : am_fetch (am_mth 168) 87 = some (.invokevirtual 183, 3, [0, 86, 1, 7, 795, 796, 797, 64], [0, 1, 2]) := by decide +kernel
theorem bf168_90 : am_fetch (am_mth 168) 90 = some (.iadd, 1, [], [0, 1, 2]) := by decide +kernel
theorem bf168_91 : am_fetch (am_mth 168) 91 = some (.putfield 176, 3, [0, 8, 7, 118], [0, 1, 2]) := by decide +kernel
theorem bf168_94 : am_fetch (am_mth 168) 94 = some (.aload_n 3, 1, [], [0, 1, 2]) := by decide +kernel
theorem bf168_95 : am_fetch (am_mth 168) 95 = some (.getfield 179, 3, [1, 6, 1, 613], [0, 1, 2]) := by decide +kernel
theorem bf168_98 : am_fetch (am_mth 168) 98 = some (.aload 4, 2, [], [0, 1, 2]) := by decide +kernel
theorem bf168_100 : am_fetch (am_mth 168) 100 = some (.getfield 179, 3, [1, 6, 1, 613], [0, 1, 2]) := by decide +kernel
theorem bf168_103 : am_fetch (am_mth 168) 103 = some (.invokevirtual 189, 3, [0, 131, 1, 7, 799, 800, 801, 64], [0, 1, 2]) := by decide +kernel
theorem bf168_106 : am_fetch (am_mth 168) 106 = some (.aload 4, 2, [], [0, 1, 2]) := by decide +kernel
theorem bf168_108 : am_fetch (am_mth 168) 108 = some (.getfield 179, 3, [1, 6, 1, 613], [0, 1, 2, 4]) := by decide +kernel
theorem bf168_111 : am_fetch (am_mth 168) 111 = some (.aload_n 3, 1, [], [0, 1, 2, 4]) := by decide +kernel
theorem bf168_112 : am_fetch (am_mth 168) 112 = some (.getfield 179, 3, [1, 6, 1, 613], [0, 1, 2, 3, 4]) := by decide +kernel
theorem bf168_115 : am_fetch (am_mth 168) 115 = some (.invokevirtual 189, 3, [0, 131, 1, 7, 799, 800, 801, 64], [0, 1, 2, 3, 4]) := by decide +kernel
theorem bf168_118 : am_fetch (am_mth 168) 118 = some (.iadd, 1, [], [0, 1, 2, 3, 4]) := by decide +kernel
theorem bf168_119 : am_fetch (am_mth 168) 119 = some (.ireturn, 1, [0], [0, 1, 2, 3, 4]) := by decide +kernel
theorem bk168_0 {w : am_Wd} {l0 : Nat} {l1 : Int32} {l2 : Int32} : am_run 168 0 [some (.ref l0), some (.int l1), some (.int l2), none, none] [] w = (am_kf w l0 8).bind fun _ => (am_x 31 [.ref l0, .int l1] w).bind fun r => bct r fun v w' => am_run 168 5 [some (.ref l0), some (.int l1), some (.int l2), none, none] (v.toList ++ []) w' := by
  refine (bu (ls'' := [some (.ref l0), some (.int l1), some (.int l2), none, none]) (st' := [.ref l0]) bf168_0 bf168_1 rfl rfl).trans ?_
  refine (bu (ls'' := [some (.ref l0), some (.int l1), some (.int l2), none, none]) (st' := [.int l1, .ref l0]) bf168_1 bf168_2 rfl rfl).trans ?_
  exact bkV bf168_2 bf168_5 rfl (by decide +kernel) (Nat.le_of_ble_eq_true rfl) rfl (bhd rfl)
theorem bk168_5 {w : am_Wd} {l0 : Nat} {l1 : Int32} {l2 : Int32} {s0 : Nat} : am_run 168 5 [some (.ref l0), some (.int l1), some (.int l2), none, none] [.ref s0] w = (am_kf w l0 8).bind fun _ => (am_x 31 [.ref l0, .int l2] w).bind fun r => bct r fun v w' => am_run 168 11 [some (.ref l0), some (.int l1), some (.int l2), some (.ref s0), none] (v.toList ++ []) w' := by
  refine (bu (ls'' := [some (.ref l0), some (.int l1), some (.int l2), some (.ref s0), none]) (st' := []) bf168_5 bf168_6 rfl rfl).trans ?_
  refine (bu (ls'' := [some (.ref l0), some (.int l1), some (.int l2), some (.ref s0), none]) (st' := [.ref l0]) bf168_6 bf168_7 rfl rfl).trans ?_
  refine (bu (ls'' := [some (.ref l0), some (.int l1), some (.int l2), some (.ref s0), none]) (st' := [.int l2, .ref l0]) bf168_7 bf168_8 rfl rfl).trans ?_
  exact bkV bf168_8 bf168_11 rfl (by decide +kernel) (Nat.le_of_ble_eq_true rfl) rfl (bhd rfl)
theorem bk168_11 {w : am_Wd} {l0 : Nat} {l1 : Int32} {l2 : Int32} {l3 : Nat} {s0 : Nat} : am_run 168 11 [some (.ref l0), some (.int l1), some (.int l2), some (.ref l3), none] [.ref s0] w = if l1 = l2 then am_run 168 22 [some (.ref l0), none, none, some (.ref l3), some (.ref s0)] [] w else am_run 168 18 [some (.ref l0), none, none, some (.ref l3), some (.ref s0)] [] w := by
  refine (bu (ls'' := [some (.ref l0), some (.int l1), some (.int l2), some (.ref l3), some (.ref s0)]) (st' := []) bf168_11 bf168_13 rfl rfl).trans ?_
  refine (bu (ls'' := [some (.ref l0), none, some (.int l2), some (.ref l3), some (.ref s0)]) (st' := [.int l1]) bf168_13 bf168_14 rfl rfl).trans ?_
  refine (bu (ls'' := [some (.ref l0), none, none, some (.ref l3), some (.ref s0)]) (st' := [.int l2, .int l1]) bf168_14 bf168_15 rfl rfl).trans ?_
  exact bic bf168_15 rfl bf168_22 bf168_18 rfl rfl rfl
theorem bk168_22 {w : am_Wd} {l0 : Nat} {l3 : Nat} {l4 : Nat} : am_run 168 22 [some (.ref l0), none, none, some (.ref l3), some (.ref l4)] [] w = am_run 168 23 [some (.ref l0), none, none, some (.ref l3), some (.ref l4)] [.int (nI 0)] w := by
  refine (bu (ls'' := [some (.ref l0), none, none, some (.ref l3), some (.ref l4)]) (st' := [.int (nI 0)]) bf168_22 bf168_23 rfl rfl).trans ?_
  rfl
theorem bk168_18 {w : am_Wd} {l0 : Nat} {l3 : Nat} {l4 : Nat} : am_run 168 18 [some (.ref l0), none, none, some (.ref l3), some (.ref l4)] [] w = am_run 168 23 [some (.ref l0), none, none, some (.ref l3), some (.ref l4)] [.int (nI 1)] w := by
  refine (bu (ls'' := [some (.ref l0), none, none, some (.ref l3), some (.ref l4)]) (st' := [.int (nI 1)]) bf168_18 bf168_19 rfl rfl).trans ?_
  refine (bu (ls'' := [some (.ref l0), none, none, some (.ref l3), some (.ref l4)]) (st' := [.int (nI 1)]) bf168_19 bf168_23 rfl rfl).trans ?_
  rfl
theorem bk168_23 {w : am_Wd} {l0 : Nat} {l3 : Nat} {l4 : Nat} {s0 : Int32} : am_run 168 23 [some (.ref l0), none, none, some (.ref l3), some (.ref l4)] [.int s0] w = (am_x 28 [.int s0] w).bind fun r => bct r fun v w' => am_run 168 26 [some (.ref l0), none, none, some (.ref l3), some (.ref l4)] (v.toList ++ []) w' := by
  exact bkS bf168_23 bf168_26 rfl (by decide +kernel) (Nat.le_of_ble_eq_true rfl) rfl (bhd rfl)
theorem bk168_26 {w : am_Wd} {l0 : Nat} {l3 : Nat} {l4 : Nat} : am_run 168 26 [some (.ref l0), none, none, some (.ref l3), some (.ref l4)] [] w = (am_kf w l3 6).bind fun _ => (am_x 128 [.ref l3] w).bind fun r => bct r fun v w' => am_run 168 30 [some (.ref l0), none, none, some (.ref l3), some (.ref l4)] (v.toList ++ []) w' := by
  refine (bu (ls'' := [some (.ref l0), none, none, some (.ref l3), some (.ref l4)]) (st' := [.ref l3]) bf168_26 bf168_27 rfl rfl).trans ?_
  exact bkV bf168_27 bf168_30 rfl (by decide +kernel) (Nat.le_of_ble_eq_true rfl) rfl (bhd rfl)
theorem bk168_30 {w : am_Wd} {l0 : Nat} {l3 : Nat} {l4 : Nat} {s0 : Int32} : am_run 168 30 [some (.ref l0), none, none, some (.ref l3), some (.ref l4)] [.int s0] w = if s0 = nI 0 then am_run 168 53 [none, none, none, none, none] [] w else am_run 168 33 [some (.ref l0), none, none, some (.ref l3), some (.ref l4)] [] w := by
  exact bifc bf168_30 rfl bf168_53 bf168_33 rfl rfl rfl
theorem bk168_53 {w : am_Wd}  : am_run 168 53 [none, none, none, none, none] [] w = some (.inr (am_xn 2), am_jk w 1 6) := by
  exact am_e2 bf168_53 rfl (am_ge_jk _ _ _)
theorem bk168_33 {w : am_Wd} {l0 : Nat} {l3 : Nat} {l4 : Nat} : am_run 168 33 [some (.ref l0), none, none, some (.ref l3), some (.ref l4)] [] w = (am_kf w l4 6).bind fun _ => (am_x 128 [.ref l4] w).bind fun r => bct r fun v w' => am_run 168 38 [some (.ref l0), none, none, some (.ref l3), some (.ref l4)] (v.toList ++ []) w' := by
  refine (bu (ls'' := [some (.ref l0), none, none, some (.ref l3), some (.ref l4)]) (st' := [.ref l4]) bf168_33 bf168_35 rfl rfl).trans ?_
  exact bkV bf168_35 bf168_38 rfl (by decide +kernel) (Nat.le_of_ble_eq_true rfl) rfl (bhd rfl)
theorem bk168_38 {w : am_Wd} {l0 : Nat} {l3 : Nat} {l4 : Nat} {s0 : Int32} : am_run 168 38 [some (.ref l0), none, none, some (.ref l3), some (.ref l4)] [.int s0] w = if s0 = nI 0 then am_run 168 53 [none, none, none, none, none] [] w else am_run 168 41 [some (.ref l0), none, none, some (.ref l3), some (.ref l4)] [] w := by
  exact bifc bf168_38 rfl bf168_53 bf168_41 rfl rfl rfl
theorem bk168_41 {w : am_Wd} {l0 : Nat} {l3 : Nat} {l4 : Nat} : am_run 168 41 [some (.ref l0), none, none, some (.ref l3), some (.ref l4)] [] w = (am_kf w l3 6).bind fun _ => (am_x 17 [.ref l3] w).bind fun r => bct r fun v w' => am_run 168 45 [some (.ref l0), none, none, some (.ref l3), some (.ref l4)] (v.toList ++ []) w' := by
  refine (bu (ls'' := [some (.ref l0), none, none, some (.ref l3), some (.ref l4)]) (st' := [.ref l3]) bf168_41 bf168_42 rfl rfl).trans ?_
  exact bkV bf168_42 bf168_45 rfl (by decide +kernel) (Nat.le_of_ble_eq_true rfl) rfl (bhd rfl)
theorem bk168_45 {w : am_Wd} {l0 : Nat} {l3 : Nat} {l4 : Nat} {s0 : Int32} : am_run 168 45 [some (.ref l0), none, none, some (.ref l3), some (.ref l4)] [.int s0] w = (am_kf w l4 6).bind fun _ => (am_x 17 [.ref l4] w).bind fun r => bct r fun v w' => am_run 168 50 [some (.ref l0), none, none, some (.ref l3), some (.ref l4)] (v.toList ++ [.int s0]) w' := by
  refine (bu (ls'' := [some (.ref l0), none, none, some (.ref l3), some (.ref l4)]) (st' := [.ref l4, .int s0]) bf168_45 bf168_47 rfl rfl).trans ?_
  exact bkV bf168_47 bf168_50 rfl (by decide +kernel) (Nat.le_of_ble_eq_true rfl) rfl (bhd rfl)
theorem bk168_50 {w : am_Wd} {l0 : Nat} {l3 : Nat} {l4 : Nat} {s0 : Int32} {s1 : Int32} : am_run 168 50 [some (.ref l0), none, none, some (.ref l3), some (.ref l4)] [.int s0, .int s1] w = if s1 = s0 then am_run 168 63 [some (.ref l0), none, none, some (.ref l3), some (.ref l4)] [] w else am_run 168 53 [none, none, none, none, none] [] w := by
  exact bic bf168_50 rfl bf168_63 bf168_53 rfl rfl rfl
theorem bk168_63 {w : am_Wd} {l0 : Nat} {l3 : Nat} {l4 : Nat} : am_run 168 63 [some (.ref l0), none, none, some (.ref l3), some (.ref l4)] [] w = (am_gf w l0 8 6).bind fun v => am_run 168 68 [some (.ref l0), none, none, some (.ref l3), some (.ref l4)] (v :: [.ref l0]) w := by
  refine (bu (ls'' := [some (.ref l0), none, none, some (.ref l3), some (.ref l4)]) (st' := [.ref l0]) bf168_63 bf168_64 rfl rfl).trans ?_
  refine (bu (ls'' := [some (.ref l0), none, none, some (.ref l3), some (.ref l4)]) (st' := [.ref l0, .ref l0]) bf168_64 bf168_65 rfl rfl).trans ?_
  exact bh bf168_65 bf168_68 rfl (fun _ _ => am_ge_rf w) rfl
theorem bk168_68 {w : am_Wd} {l0 : Nat} {l3 : Nat} {l4 : Nat} {s0 : Int32} {s1 : Nat} : am_run 168 68 [some (.ref l0), none, none, some (.ref l3), some (.ref l4)] [.int s0, .ref s1] w = (am_pf w s1 8 6 (.int (s0 + (nI 1)))).bind fun w' => am_run 168 73 [some (.ref l0), none, none, some (.ref l3), some (.ref l4)] [] w' := by
  refine (bu (ls'' := [some (.ref l0), none, none, some (.ref l3), some (.ref l4)]) (st' := [.int (nI 1), .int s0, .ref s1]) bf168_68 bf168_69 rfl rfl).trans ?_
  refine (bu (ls'' := [some (.ref l0), none, none, some (.ref l3), some (.ref l4)]) (st' := [.int (s0 + (nI 1)), .ref s1]) bf168_69 bf168_70 rfl rfl).trans ?_
  exact bh bf168_70 bf168_73 rfl (bge_pf) rfl
theorem bk168_73 {w : am_Wd} {l0 : Nat} {l3 : Nat} {l4 : Nat} : am_run 168 73 [some (.ref l0), none, none, some (.ref l3), some (.ref l4)] [] w = (am_gf w l0 8 7).bind fun v => am_run 168 78 [none, none, none, some (.ref l3), some (.ref l4)] (v :: [.ref l0]) w := by
  refine (bu (ls'' := [none, none, none, some (.ref l3), some (.ref l4)]) (st' := [.ref l0]) bf168_73 bf168_74 rfl rfl).trans ?_
  refine (bu (ls'' := [none, none, none, some (.ref l3), some (.ref l4)]) (st' := [.ref l0, .ref l0]) bf168_74 bf168_75 rfl rfl).trans ?_
  exact bh bf168_75 bf168_78 rfl (fun _ _ => am_ge_rf w) rfl
theorem bk168_78 {w : am_Wd} {l3 : Nat} {l4 : Nat} {s0 : Int32} {s1 : Nat} : am_run 168 78 [none, none, none, some (.ref l3), some (.ref l4)] [.int s0, .ref s1] w = (am_gf w l3 6 1).bind fun v => am_run 168 82 [none, none, none, some (.ref l3), some (.ref l4)] (v :: [.int s0, .ref s1]) w := by
  refine (bu (ls'' := [none, none, none, some (.ref l3), some (.ref l4)]) (st' := [.ref l3, .int s0, .ref s1]) bf168_78 bf168_79 rfl rfl).trans ?_
  exact bh bf168_79 bf168_82 rfl (fun _ _ => am_ge_rf w) rfl
theorem bk168_82 {w : am_Wd} {l3 : Nat} {l4 : Nat} {s0 : Nat} {s1 : Int32} {s2 : Nat} : am_run 168 82 [none, none, none, some (.ref l3), some (.ref l4)] [.ref s0, .int s1, .ref s2] w = (am_gf w l4 6 1).bind fun v => am_run 168 87 [none, none, none, some (.ref l3), some (.ref l4)] (v :: [.ref s0, .int s1, .ref s2]) w := by
  refine (bu (ls'' := [none, none, none, some (.ref l3), some (.ref l4)]) (st' := [.ref l4, .ref s0, .int s1, .ref s2]) bf168_82 bf168_84 rfl rfl).trans ?_
  exact bh bf168_84 bf168_87 rfl (fun _ _ => am_ge_rf w) rfl
theorem bk168_87 {w : am_Wd} {l3 : Nat} {l4 : Nat} {s0 : Nat} {s1 : Nat} {s2 : Int32} {s3 : Nat} : am_run 168 87 [none, none, none, some (.ref l3), some (.ref l4)] [.ref s0, .ref s1, .int s2, .ref s3] w = (am_kf w s1 7).bind fun _ => (am_x 86 [.ref s1, .ref s0] w).bind fun r => bct r fun v w' => am_run 168 90 [none, none, none, some (.ref l3), some (.ref l4)] (v.toList ++ [.int s2, .ref s3]) w' := by
  exact bkV bf168_87 bf168_90 rfl (by decide +kernel) (Nat.le_of_ble_eq_true rfl) rfl (bhd rfl)
theorem bk168_90 {w : am_Wd} {l3 : Nat} {l4 : Nat} {s0 : Int32} {s1 : Int32} {s2 : Nat} : am_run 168 90 [none, none, none, some (.ref l3), some (.ref l4)] [.int s0, .int s1, .ref s2] w = (am_pf w s2 8 7 (.int (s1 + s0))).bind fun w' => am_run 168 94 [none, none, none, some (.ref l3), some (.ref l4)] [] w' := by
  refine (bu (ls'' := [none, none, none, some (.ref l3), some (.ref l4)]) (st' := [.int (s1 + s0), .ref s2]) bf168_90 bf168_91 rfl rfl).trans ?_
  exact bh bf168_91 bf168_94 rfl (bge_pf) rfl
theorem bk168_94 {w : am_Wd} {l3 : Nat} {l4 : Nat} : am_run 168 94 [none, none, none, some (.ref l3), some (.ref l4)] [] w = (am_gf w l3 6 1).bind fun v => am_run 168 98 [none, none, none, some (.ref l3), some (.ref l4)] (v :: []) w := by
  refine (bu (ls'' := [none, none, none, some (.ref l3), some (.ref l4)]) (st' := [.ref l3]) bf168_94 bf168_95 rfl rfl).trans ?_
  exact bh bf168_95 bf168_98 rfl (fun _ _ => am_ge_rf w) rfl
theorem bk168_98 {w : am_Wd} {l3 : Nat} {l4 : Nat} {s0 : Nat} : am_run 168 98 [none, none, none, some (.ref l3), some (.ref l4)] [.ref s0] w = (am_gf w l4 6 1).bind fun v => am_run 168 103 [none, none, none, some (.ref l3), some (.ref l4)] (v :: [.ref s0]) w := by
  refine (bu (ls'' := [none, none, none, some (.ref l3), some (.ref l4)]) (st' := [.ref l4, .ref s0]) bf168_98 bf168_100 rfl rfl).trans ?_
  exact bh bf168_100 bf168_103 rfl (fun _ _ => am_ge_rf w) rfl
theorem bk168_103 {w : am_Wd} {l3 : Nat} {l4 : Nat} {s0 : Nat} {s1 : Nat} : am_run 168 103 [none, none, none, some (.ref l3), some (.ref l4)] [.ref s0, .ref s1] w = (am_kf w s1 7).bind fun _ => (am_x 131 [.ref s1, .ref s0] w).bind fun r => bct r fun v w' => am_run 168 106 [none, none, none, some (.ref l3), some (.ref l4)] (v.toList ++ []) w' := by
  exact bkV bf168_103 bf168_106 rfl (by decide +kernel) (Nat.le_of_ble_eq_true rfl) rfl (bhd rfl)
theorem bk168_106 {w : am_Wd} {l3 : Nat} {l4 : Nat} {s0 : Int32} : am_run 168 106 [none, none, none, some (.ref l3), some (.ref l4)] [.int s0] w = (am_gf w l4 6 1).bind fun v => am_run 168 111 [none, none, none, some (.ref l3), none] (v :: [.int s0]) w := by
  refine (bu (ls'' := [none, none, none, some (.ref l3), none]) (st' := [.ref l4, .int s0]) bf168_106 bf168_108 rfl rfl).trans ?_
  exact bh bf168_108 bf168_111 rfl (fun _ _ => am_ge_rf w) rfl
theorem bk168_111 {w : am_Wd} {l3 : Nat} {s0 : Nat} {s1 : Int32} : am_run 168 111 [none, none, none, some (.ref l3), none] [.ref s0, .int s1] w = (am_gf w l3 6 1).bind fun v => am_run 168 115 [none, none, none, none, none] (v :: [.ref s0, .int s1]) w := by
  refine (bu (ls'' := [none, none, none, none, none]) (st' := [.ref l3, .ref s0, .int s1]) bf168_111 bf168_112 rfl rfl).trans ?_
  exact bh bf168_112 bf168_115 rfl (fun _ _ => am_ge_rf w) rfl
theorem bk168_115 {w : am_Wd} {s0 : Nat} {s1 : Nat} {s2 : Int32} : am_run 168 115 [none, none, none, none, none] [.ref s0, .ref s1, .int s2] w = (am_kf w s1 7).bind fun _ => (am_x 131 [.ref s1, .ref s0] w).bind fun r => bct r fun v w' => am_run 168 118 [none, none, none, none, none] (v.toList ++ [.int s2]) w' := by
  exact bkV bf168_115 bf168_118 rfl (by decide +kernel) (Nat.le_of_ble_eq_true rfl) rfl (bhd rfl)
theorem bk168_118 {w : am_Wd} {s0 : Int32} {s1 : Int32} : am_run 168 118 [none, none, none, none, none] [.int s0, .int s1] w = some (.inl (some (.int (s1 + s0))), w) := by
  refine (bu (ls'' := [none, none, none, none, none]) (st' := [.int (s1 + s0)]) bf168_118 bf168_119 rfl rfl).trans ?_
  exact am_e2 bf168_119 rfl (am_ge_rf w)
theorem bf169_0 : am_fetch (am_mth 169) 0 = some (.iload_n 1, 1, [], []) := by decide +kernel
theorem bf169_1 : am_fetch (am_mth 169) 1 = some (.invokestatic 26, 3, [0, 29, 1, 311, 312, 46], []) := by decide +kernel
theorem bf169_4 : am_fetch (am_mth 169) 4 = some (.iload_n 2, 1, [], []) := by decide +kernel
theorem bf169_5 : am_fetch (am_mth 169) 5 = some (.invokestatic 30, 3, [0, 30, 1, 330, 331, 46], []) := by decide +kernel
theorem bf169_8 : am_fetch (am_mth 169) 8 = some (.iload_n 3, 1, [], []) := by decide +kernel
theorem bf169_9 : am_fetch (am_mth 169) 9 = some (.iconst 0, 1, [], []) := by decide +kernel
theorem bf169_10 : am_fetch (am_mth 169) 10 = some (.iconst 2, 1, [], []) := by decide +kernel
theorem bf169_11 : am_fetch (am_mth 169) 11 = some (.invokestatic 43, 3, [0, 92, 3, 220, 221, 46], []) := by decide +kernel
theorem bf169_14 : am_fetch (am_mth 169) 14 = some (.iload_n 3, 1, [], []) := by decide +kernel
theorem bf169_15 : am_fetch (am_mth 169) 15 = some (.lookupswitch 52 #[(0, 25), (1, 35)], 25, [], [3]) := by decide +kernel
theorem bf169_40 : am_fetch (am_mth 169) 40 = some (.aload_n 0, 1, [], [3]) := by decide +kernel
theorem bf169_41 : am_fetch (am_mth 169) 41 = some (.getfield 10, 3, [0, 8, 0, 111], [0, 3]) := by decide +kernel
theorem bf169_44 : am_fetch (am_mth 169) 44 = some (.iload_n 1, 1, [], [0, 3]) := by decide +kernel
theorem bf169_45 : am_fetch (am_mth 169) 45 = some (.iload_n 2, 1, [], [0, 1, 3]) := by decide +kernel
theorem bf169_46 : am_fetch (am_mth 169) 46 = some (.invokevirtual 48, 3, [0, 124, 2, 5, 334, 335, 336, 47], [0, 1, 2, 3]) := by decide +kernel
theorem bf169_49 : am_fetch (am_mth 169) 49 = some (.ireturn, 1, [0], [0, 1, 2, 3]) := by decide +kernel
theorem bf169_50 : am_fetch (am_mth 169) 50 = some (.aload_n 0, 1, [], [3]) := by decide +kernel
theorem bf169_51 : am_fetch (am_mth 169) 51 = some (.getfield 10, 3, [0, 8, 0, 111], [3]) := by decide +kernel
theorem bf169_54 : am_fetch (am_mth 169) 54 = some (.iload_n 1, 1, [], [3]) := by decide +kernel
theorem bf169_55 : am_fetch (am_mth 169) 55 = some (.iload_n 2, 1, [], [1, 3]) := by decide +kernel
theorem bf169_56 : am_fetch (am_mth 169) 56 = some (.aload_n 0, 1, [], [1, 2, 3]) := by decide +kernel
theorem bf169_57 : am_fetch (am_mth 169) 57 = some (.invokevirtual 110, 3, [0, 33, 0, 8, 165, 167, 1, 46], [0, 1, 2, 3]) := by decide +kernel
theorem bf169_60 : am_fetch (am_mth 169) 60 = some (.invokevirtual 113, 3, [0, 126, 3, 5, 338, 184, 185, 47], [0, 1, 2, 3]) := by decide +kernel
theorem bf169_63 : am_fetch (am_mth 169) 63 = some (.invokestatic 200, 3, [0, 26, 1, 339, 200, 46], [0, 1, 2, 3]) := by decide +kernel
theorem bf169_66 : am_fetch (am_mth 169) 66 = some (.ireturn, 1, [0], [0, 1, 2, 3]) := by decide +kernel
theorem bf169_67 : am_fetch (am_mth 169) 67 = some (.aload_n 0, 1, [], [3]) := by decide +kernel
theorem bf169_68 : am_fetch (am_mth 169) 68 = some (.getfield 10, 3, [0, 8, 0, 111], [0, 3]) := by decide +kernel
theorem bf169_71 : am_fetch (am_mth 169) 71 = some (.iload_n 1, 1, [], [0, 3]) := by decide +kernel
theorem bf169_72 : am_fetch (am_mth 169) 72 = some (.iload_n 2, 1, [], [0, 1, 3]) := by decide +kernel
theorem bf169_73 : am_fetch (am_mth 169) 73 = some (.invokevirtual 204, 3, [0, 125, 2, 5, 340, 341, 342, 47], [0, 1, 2, 3]) := by decide +kernel
theorem bf169_76 : am_fetch (am_mth 169) 76 = some (.ireturn, 1, [0], [0, 1, 2, 3]) := by decide +kernel
theorem bk169_0 {w : am_Wd} {l0 : Nat} {l1 : Int32} {l2 : Int32} {l3 : Int32} : am_run 169 0 [some (.ref l0), some (.int l1), some (.int l2), some (.int l3)] [] w = (am_x 29 [.int l1] w).bind fun r => bct r fun v w' => am_run 169 4 [some (.ref l0), some (.int l1), some (.int l2), some (.int l3)] (v.toList ++ []) w' := by
  refine (bu (ls'' := [some (.ref l0), some (.int l1), some (.int l2), some (.int l3)]) (st' := [.int l1]) bf169_0 bf169_1 rfl rfl).trans ?_
  exact bkS bf169_1 bf169_4 rfl (by decide +kernel) (Nat.le_of_ble_eq_true rfl) rfl (bhd rfl)
theorem bk169_4 {w : am_Wd} {l0 : Nat} {l1 : Int32} {l2 : Int32} {l3 : Int32} : am_run 169 4 [some (.ref l0), some (.int l1), some (.int l2), some (.int l3)] [] w = (am_x 30 [.int l2] w).bind fun r => bct r fun v w' => am_run 169 8 [some (.ref l0), some (.int l1), some (.int l2), some (.int l3)] (v.toList ++ []) w' := by
  refine (bu (ls'' := [some (.ref l0), some (.int l1), some (.int l2), some (.int l3)]) (st' := [.int l2]) bf169_4 bf169_5 rfl rfl).trans ?_
  exact bkS bf169_5 bf169_8 rfl (by decide +kernel) (Nat.le_of_ble_eq_true rfl) rfl (bhd rfl)
theorem bk169_8 {w : am_Wd} {l0 : Nat} {l1 : Int32} {l2 : Int32} {l3 : Int32} : am_run 169 8 [some (.ref l0), some (.int l1), some (.int l2), some (.int l3)] [] w = (am_x 92 [.int l3, .int (nI 0), .int (nI 2)] w).bind fun r => bct r fun v w' => am_run 169 14 [some (.ref l0), some (.int l1), some (.int l2), some (.int l3)] (v.toList ++ []) w' := by
  refine (bu (ls'' := [some (.ref l0), some (.int l1), some (.int l2), some (.int l3)]) (st' := [.int l3]) bf169_8 bf169_9 rfl rfl).trans ?_
  refine (bu (ls'' := [some (.ref l0), some (.int l1), some (.int l2), some (.int l3)]) (st' := [.int (nI 0), .int l3]) bf169_9 bf169_10 rfl rfl).trans ?_
  refine (bu (ls'' := [some (.ref l0), some (.int l1), some (.int l2), some (.int l3)]) (st' := [.int (nI 2), .int (nI 0), .int l3]) bf169_10 bf169_11 rfl rfl).trans ?_
  exact bkS bf169_11 bf169_14 rfl (by decide +kernel) (Nat.le_of_ble_eq_true rfl) rfl (bhd rfl)
theorem bk169_14 {w : am_Wd} {l0 : Nat} {l1 : Int32} {l2 : Int32} {l3 : Int32} : am_run 169 14 [some (.ref l0), some (.int l1), some (.int l2), some (.int l3)] [] w = if l3 = (nI 0) then am_run 169 40 [some (.ref l0), some (.int l1), some (.int l2), none] [] w else if l3 = (nI 1) then am_run 169 50 [some (.ref l0), some (.int l1), some (.int l2), none] [] w else am_run 169 67 [some (.ref l0), some (.int l1), some (.int l2), none] [] w := by
  refine (bu (ls'' := [some (.ref l0), some (.int l1), some (.int l2), none]) (st' := [.int l3]) bf169_14 bf169_15 rfl rfl).trans ?_
  refine bsw (fun q => ?_) (fun q0 => ?_)
  · exact bu (ls' := [some (.ref l0), some (.int l1), some (.int l2), none]) (ls'' := [some (.ref l0), some (.int l1), some (.int l2), none]) (st' := []) bf169_15 bf169_40 (by rw [q]; rfl) rfl
  refine bsw (fun q => ?_) (fun q1 => ?_)
  · exact bu (ls' := [some (.ref l0), some (.int l1), some (.int l2), none]) (ls'' := [some (.ref l0), some (.int l1), some (.int l2), none]) (st' := []) bf169_15 bf169_50 (by rw [q]; rfl) rfl
  exact bsl bf169_15 bf169_67 rfl rfl (bcon (by rfl) q0 (bcon (by rfl) q1 (bnil))) rfl
theorem bk169_40 {w : am_Wd} {l0 : Nat} {l1 : Int32} {l2 : Int32} : am_run 169 40 [some (.ref l0), some (.int l1), some (.int l2), none] [] w = (am_gf w l0 8 0).bind fun v => am_run 169 44 [none, some (.int l1), some (.int l2), none] (v :: []) w := by
  refine (bu (ls'' := [none, some (.int l1), some (.int l2), none]) (st' := [.ref l0]) bf169_40 bf169_41 rfl rfl).trans ?_
  exact bh bf169_41 bf169_44 rfl (fun _ _ => am_ge_rf w) rfl
theorem bk169_50 {w : am_Wd} {l0 : Nat} {l1 : Int32} {l2 : Int32} : am_run 169 50 [some (.ref l0), some (.int l1), some (.int l2), none] [] w = (am_gf w l0 8 0).bind fun v => am_run 169 54 [some (.ref l0), some (.int l1), some (.int l2), none] (v :: []) w := by
  refine (bu (ls'' := [some (.ref l0), some (.int l1), some (.int l2), none]) (st' := [.ref l0]) bf169_50 bf169_51 rfl rfl).trans ?_
  exact bh bf169_51 bf169_54 rfl (fun _ _ => am_ge_rf w) rfl
theorem bk169_67 {w : am_Wd} {l0 : Nat} {l1 : Int32} {l2 : Int32} : am_run 169 67 [some (.ref l0), some (.int l1), some (.int l2), none] [] w = (am_gf w l0 8 0).bind fun v => am_run 169 71 [none, some (.int l1), some (.int l2), none] (v :: []) w := by
  refine (bu (ls'' := [none, some (.int l1), some (.int l2), none]) (st' := [.ref l0]) bf169_67 bf169_68 rfl rfl).trans ?_
  exact bh bf169_68 bf169_71 rfl (fun _ _ => am_ge_rf w) rfl
theorem bk169_44 {w : am_Wd} {l1 : Int32} {l2 : Int32} {s0 : Nat} : am_run 169 44 [none, some (.int l1), some (.int l2), none] [.ref s0] w = (am_kf w s0 5).bind fun _ => (am_x 124 [.ref s0, .int l1, .int l2] w).bind fun r => bct r fun v w' => am_run 169 49 [none, none, none, none] (v.toList ++ []) w' := by
  refine (bu (ls'' := [none, none, some (.int l2), none]) (st' := [.int l1, .ref s0]) bf169_44 bf169_45 rfl rfl).trans ?_
  refine (bu (ls'' := [none, none, none, none]) (st' := [.int l2, .int l1, .ref s0]) bf169_45 bf169_46 rfl rfl).trans ?_
  exact bkV bf169_46 bf169_49 rfl (by decide +kernel) (Nat.le_of_ble_eq_true rfl) rfl (bhd rfl)
theorem bk169_54 {w : am_Wd} {l0 : Nat} {l1 : Int32} {l2 : Int32} {s0 : Nat} : am_run 169 54 [some (.ref l0), some (.int l1), some (.int l2), none] [.ref s0] w = (am_kf w l0 8).bind fun _ => (am_x 33 [.ref l0] w).bind fun r => bct r fun v w' => am_run 169 60 [none, none, none, none] (v.toList ++ [.int l2, .int l1, .ref s0]) w' := by
  refine (bu (ls'' := [some (.ref l0), none, some (.int l2), none]) (st' := [.int l1, .ref s0]) bf169_54 bf169_55 rfl rfl).trans ?_
  refine (bu (ls'' := [some (.ref l0), none, none, none]) (st' := [.int l2, .int l1, .ref s0]) bf169_55 bf169_56 rfl rfl).trans ?_
  refine (bu (ls'' := [none, none, none, none]) (st' := [.ref l0, .int l2, .int l1, .ref s0]) bf169_56 bf169_57 rfl rfl).trans ?_
  exact bkV bf169_57 bf169_60 rfl (by decide +kernel) (Nat.le_of_ble_eq_true rfl) rfl (bhd rfl)
theorem bk169_71 {w : am_Wd} {l1 : Int32} {l2 : Int32} {s0 : Nat} : am_run 169 71 [none, some (.int l1), some (.int l2), none] [.ref s0] w = (am_kf w s0 5).bind fun _ => (am_x 125 [.ref s0, .int l1, .int l2] w).bind fun r => bct r fun v w' => am_run 169 76 [none, none, none, none] (v.toList ++ []) w' := by
  refine (bu (ls'' := [none, none, some (.int l2), none]) (st' := [.int l1, .ref s0]) bf169_71 bf169_72 rfl rfl).trans ?_
  refine (bu (ls'' := [none, none, none, none]) (st' := [.int l2, .int l1, .ref s0]) bf169_72 bf169_73 rfl rfl).trans ?_
  exact bkV bf169_73 bf169_76 rfl (by decide +kernel) (Nat.le_of_ble_eq_true rfl) rfl (bhd rfl)
theorem bk169_49 {w : am_Wd} {s0 : Int32} : am_run 169 49 [none, none, none, none] [.int s0] w = some (.inl (some (.int s0)), w) := by
  exact am_e2 bf169_49 rfl (am_ge_rf w)
theorem bk169_60 {w : am_Wd} {s0 : Int32} {s1 : Int32} {s2 : Int32} {s3 : Nat} : am_run 169 60 [none, none, none, none] [.int s0, .int s1, .int s2, .ref s3] w = (am_kf w s3 5).bind fun _ => (am_x 126 [.ref s3, .int s2, .int s1, .int s0] w).bind fun r => bct r fun v w' => am_run 169 63 [none, none, none, none] (v.toList ++ []) w' := by
  exact bkV bf169_60 bf169_63 rfl (by decide +kernel) (Nat.le_of_ble_eq_true rfl) rfl (bhd rfl)
theorem bk169_76 {w : am_Wd} {s0 : Int32} : am_run 169 76 [none, none, none, none] [.int s0] w = some (.inl (some (.int s0)), w) := by
  exact am_e2 bf169_76 rfl (am_ge_rf w)
theorem bk169_63 {w : am_Wd} {s0 : Int32} : am_run 169 63 [none, none, none, none] [.int s0] w = (am_x 26 [.int s0] w).bind fun r => bct r fun v w' => am_run 169 66 [none, none, none, none] (v.toList ++ []) w' := by
  exact bkS bf169_63 bf169_66 rfl (by decide +kernel) (Nat.le_of_ble_eq_true rfl) rfl (bhd rfl)
theorem bk169_66 {w : am_Wd} {s0 : Int32} : am_run 169 66 [none, none, none, none] [.int s0] w = some (.inl (some (.int s0)), w) := by
  exact am_e2 bf169_66 rfl (am_ge_rf w)
theorem bf170_0 : am_fetch (am_mth 170) 0 = some (.aload_n 0, 1, [], [3]) := by decide +kernel
theorem bf170_1 : am_fetch (am_mth 170) 1 = some (.iload_n 1, 1, [], [0, 3]) := by decide +kernel
theorem bf170_2 : am_fetch (am_mth 170) 2 = some (.invokevirtual 89, 3, [0, 31, 1, 8, 352, 354, 4, 46], [0, 1, 3]) := by decide +kernel
theorem bf170_5 : am_fetch (am_mth 170) 5 = some (.astore_n 3, 1, [], [0, 1, 3]) := by decide +kernel
theorem bf170_6 : am_fetch (am_mth 170) 6 = some (.iload_n 2, 1, [], [0, 1]) := by decide +kernel
theorem bf170_7 : am_fetch (am_mth 170) 7 = some (.iconst 0, 1, [], [0, 1]) := by decide +kernel
theorem bf170_8 : am_fetch (am_mth 170) 8 = some (.bipush 7, 2, [], [0, 1]) := by decide +kernel
theorem bf170_10 : am_fetch (am_mth 170) 10 = some (.invokestatic 43, 3, [0, 92, 3, 220, 221, 46], [0, 1]) := by decide +kernel
theorem bf170_13 : am_fetch (am_mth 170) 13 = some (.aload_n 3, 1, [], [0, 1]) := by decide +kernel
theorem bf170_14 : am_fetch (am_mth 170) 14 = some (.getfield 133, 3, [1, 6, 2, 615], [0, 1]) := by decide +kernel
theorem bf170_17 : am_fetch (am_mth 170) 17 = some (.iload_n 2, 1, [], [0, 1]) := by decide +kernel
theorem bf170_18 : am_fetch (am_mth 170) 18 = some (.aload_n 3, 1, [], [0, 1, 2]) := by decide +kernel
theorem bf170_19 : am_fetch (am_mth 170) 19 = some (.getfield 179, 3, [1, 6, 1, 613], [0, 1, 2, 3]) := by decide +kernel
theorem bf170_22 : am_fetch (am_mth 170) 22 = some (.invokevirtual 283, 3, [0, 122, 2, 4, 1151, 449, 450, 65], [0, 1, 2, 3]) := by decide +kernel
theorem bf170_25 : am_fetch (am_mth 170) 25 = some (.ireturn, 1, [0], [0, 1, 2, 3]) := by decide +kernel
theorem bk170_0 {w : am_Wd} {l0 : Nat} {l1 : Int32} {l2 : Int32} : am_run 170 0 [some (.ref l0), some (.int l1), some (.int l2), none] [] w = (am_kf w l0 8).bind fun _ => (am_x 31 [.ref l0, .int l1] w).bind fun r => bct r fun v w' => am_run 170 5 [none, none, some (.int l2), none] (v.toList ++ []) w' := by
  refine (bu (ls'' := [none, some (.int l1), some (.int l2), none]) (st' := [.ref l0]) bf170_0 bf170_1 rfl rfl).trans ?_
  refine (bu (ls'' := [none, none, some (.int l2), none]) (st' := [.int l1, .ref l0]) bf170_1 bf170_2 rfl rfl).trans ?_
  exact bkV bf170_2 bf170_5 rfl (by decide +kernel) (Nat.le_of_ble_eq_true rfl) rfl (bhd rfl)
theorem bk170_5 {w : am_Wd} {l2 : Int32} {s0 : Nat} : am_run 170 5 [none, none, some (.int l2), none] [.ref s0] w = (am_x 92 [.int l2, .int (nI 0), .int (nI 7)] w).bind fun r => bct r fun v w' => am_run 170 13 [none, none, some (.int l2), some (.ref s0)] (v.toList ++ []) w' := by
  refine (bu (ls'' := [none, none, some (.int l2), some (.ref s0)]) (st' := []) bf170_5 bf170_6 rfl rfl).trans ?_
  refine (bu (ls'' := [none, none, some (.int l2), some (.ref s0)]) (st' := [.int l2]) bf170_6 bf170_7 rfl rfl).trans ?_
  refine (bu (ls'' := [none, none, some (.int l2), some (.ref s0)]) (st' := [.int (nI 0), .int l2]) bf170_7 bf170_8 rfl rfl).trans ?_
  refine (bu (ls'' := [none, none, some (.int l2), some (.ref s0)]) (st' := [.int (nI 7), .int (nI 0), .int l2]) bf170_8 bf170_10 rfl rfl).trans ?_
  exact bkS bf170_10 bf170_13 rfl (by decide +kernel) (Nat.le_of_ble_eq_true rfl) rfl (bhd rfl)
theorem bk170_13 {w : am_Wd} {l2 : Int32} {l3 : Nat} : am_run 170 13 [none, none, some (.int l2), some (.ref l3)] [] w = (am_gf w l3 6 2).bind fun v => am_run 170 17 [none, none, some (.int l2), some (.ref l3)] (v :: []) w := by
  refine (bu (ls'' := [none, none, some (.int l2), some (.ref l3)]) (st' := [.ref l3]) bf170_13 bf170_14 rfl rfl).trans ?_
  exact bh bf170_14 bf170_17 rfl (fun _ _ => am_ge_rf w) rfl
theorem bk170_17 {w : am_Wd} {l2 : Int32} {l3 : Nat} {s0 : Nat} : am_run 170 17 [none, none, some (.int l2), some (.ref l3)] [.ref s0] w = (am_gf w l3 6 1).bind fun v => am_run 170 22 [none, none, none, none] (v :: [.int l2, .ref s0]) w := by
  refine (bu (ls'' := [none, none, none, some (.ref l3)]) (st' := [.int l2, .ref s0]) bf170_17 bf170_18 rfl rfl).trans ?_
  refine (bu (ls'' := [none, none, none, none]) (st' := [.ref l3, .int l2, .ref s0]) bf170_18 bf170_19 rfl rfl).trans ?_
  exact bh bf170_19 bf170_22 rfl (fun _ _ => am_ge_rf w) rfl
theorem bk170_22 {w : am_Wd} {s0 : Nat} {s1 : Int32} {s2 : Nat} : am_run 170 22 [none, none, none, none] [.ref s0, .int s1, .ref s2] w = (am_kf w s2 4).bind fun _ => (am_x 122 [.ref s2, .int s1, .ref s0] w).bind fun r => bct r fun v w' => am_run 170 25 [none, none, none, none] (v.toList ++ []) w' := by
  exact bkV bf170_22 bf170_25 rfl (by decide +kernel) (Nat.le_of_ble_eq_true rfl) rfl (bhd rfl)
theorem bk170_25 {w : am_Wd} {s0 : Int32} : am_run 170 25 [none, none, none, none] [.int s0] w = some (.inl (some (.int s0)), w) := by
  exact am_e2 bf170_25 rfl (am_ge_rf w)
theorem bf171_0 : am_fetch (am_mth 171) 0 = some (.aload_n 1, 1, [], [2, 3]) := by decide +kernel
theorem bf171_1 : am_fetch (am_mth 171) 1 = some (.getfield 133, 3, [1, 6, 2, 615], [1, 2, 3]) := by decide +kernel
theorem bf171_4 : am_fetch (am_mth 171) 4 = some (.invokevirtual 358, 3, [0, 118, 0, 4, 664, 381, 382, 65], [1, 2, 3]) := by decide +kernel
theorem bf171_7 : am_fetch (am_mth 171) 7 = some (.istore_n 2, 1, [], [1, 2, 3]) := by decide +kernel
theorem bf171_8 : am_fetch (am_mth 171) 8 = some (.iload_n 2, 1, [], [1, 3]) := by decide +kernel
theorem bf171_9 : am_fetch (am_mth 171) 9 = some (.iconst (-1), 1, [], [1, 3]) := by decide +kernel
theorem bf171_10 : am_fetch (am_mth 171) 10 = some (.if_icmp .ne 5, 3, [], [1, 3]) := by decide +kernel
theorem bf171_13 : am_fetch (am_mth 171) 13 = some (.iconst 0, 1, [], [0, 1, 2, 3]) := by decide +kernel
theorem bf171_14 : am_fetch (am_mth 171) 14 = some (.ireturn, 1, [1], [0, 1, 2, 3]) := by decide +kernel
theorem bf171_15 : am_fetch (am_mth 171) 15 = some (.iload_n 2, 1, [], [1, 3]) := by decide +kernel
theorem bf171_16 : am_fetch (am_mth 171) 16 = some (.iconst 4, 1, [], [1, 3]) := by decide +kernel
theorem bf171_17 : am_fetch (am_mth 171) 17 = some (.idiv, 1, [], [1, 3]) := by decide +kernel
theorem bf171_18 : am_fetch (am_mth 171) 18 = some (.iload_n 2, 1, [], [1, 3]) := by decide +kernel
theorem bf171_19 : am_fetch (am_mth 171) 19 = some (.iconst 4, 1, [], [1, 2, 3]) := by decide +kernel
theorem bf171_20 : am_fetch (am_mth 171) 20 = some (.irem, 1, [], [1, 2, 3]) := by decide +kernel
theorem bf171_21 : am_fetch (am_mth 171) 21 = some (.invokestatic 33, 3, [0, 13, 2, 504, 181, 57], [1, 2, 3]) := by decide +kernel
theorem bf171_24 : am_fetch (am_mth 171) 24 = some (.istore_n 3, 1, [], [1, 2, 3]) := by decide +kernel
theorem bf171_25 : am_fetch (am_mth 171) 25 = some (.iload_n 3, 1, [], [1, 2]) := by decide +kernel
theorem bf171_26 : am_fetch (am_mth 171) 26 = some (.iconst (-1), 1, [], [1, 2]) := by decide +kernel
theorem bf171_27 : am_fetch (am_mth 171) 27 = some (.if_icmp .eq 21, 3, [], [1, 2]) := by decide +kernel
theorem bf171_30 : am_fetch (am_mth 171) 30 = some (.aload_n 0, 1, [], [1, 2]) := by decide +kernel
theorem bf171_31 : am_fetch (am_mth 171) 31 = some (.getfield 10, 3, [0, 8, 0, 111], [0, 1, 2]) := by decide +kernel
theorem bf171_34 : am_fetch (am_mth 171) 34 = some (.getfield 66, 3, [1, 5, 3, 97], [0, 1, 2]) := by decide +kernel
theorem bf171_37 : am_fetch (am_mth 171) 37 = some (.iload_n 3, 1, [], [0, 1, 2]) := by decide +kernel
theorem bf171_38 : am_fetch (am_mth 171) 38 = some (.invokestatic 361, 3, [0, 11, 2, 665, 178, 57], [0, 1, 2, 3]) := by decide +kernel
theorem bf171_41 : am_fetch (am_mth 171) 41 = some (.ifCond .eq 7, 3, [], [0, 1, 2, 3]) := by decide +kernel
theorem bf171_44 : am_fetch (am_mth 171) 44 = some (.iconst 1, 1, [], [0, 1, 2, 3]) := by decide +kernel
theorem bf171_45 : am_fetch (am_mth 171) 45 = some (.goto 4, 3, [], [0, 1, 2, 3]) := by decide +kernel
theorem bf171_48 : am_fetch (am_mth 171) 48 = some (.iconst 0, 1, [], [0, 1, 2, 3]) := by decide +kernel
theorem bf171_49 : am_fetch (am_mth 171) 49 = some (.ireturn, 1, [1], [0, 1, 2, 3]) := by decide +kernel
theorem bk171_0 {w : am_Wd} {l0 : Nat} {l1 : Nat} : am_run 171 0 [some (.ref l0), some (.ref l1), none, none] [] w = (am_gf w l1 6 2).bind fun v => am_run 171 4 [some (.ref l0), none, none, none] (v :: []) w := by
  refine (bu (ls'' := [some (.ref l0), none, none, none]) (st' := [.ref l1]) bf171_0 bf171_1 rfl rfl).trans ?_
  exact bh bf171_1 bf171_4 rfl (fun _ _ => am_ge_rf w) rfl
theorem bk171_4 {w : am_Wd} {l0 : Nat} {s0 : Nat} : am_run 171 4 [some (.ref l0), none, none, none] [.ref s0] w = (am_kf w s0 4).bind fun _ => (am_x 118 [.ref s0] w).bind fun r => bct r fun v w' => am_run 171 7 [some (.ref l0), none, none, none] (v.toList ++ []) w' := by
  exact bkV bf171_4 bf171_7 rfl (by decide +kernel) (Nat.le_of_ble_eq_true rfl) rfl (bhd rfl)
theorem bk171_7 {w : am_Wd} {l0 : Nat} {s0 : Int32} : am_run 171 7 [some (.ref l0), none, none, none] [.int s0] w = if ¬ s0 = (-1 : Int32) then am_run 171 15 [some (.ref l0), none, some (.int s0), none] [] w else am_run 171 13 [none, none, none, none] [] w := by
  refine (bu (ls'' := [some (.ref l0), none, some (.int s0), none]) (st' := []) bf171_7 bf171_8 rfl rfl).trans ?_
  refine (bu (ls'' := [some (.ref l0), none, some (.int s0), none]) (st' := [.int s0]) bf171_8 bf171_9 rfl rfl).trans ?_
  refine (bu (ls'' := [some (.ref l0), none, some (.int s0), none]) (st' := [.int (-1 : Int32), .int s0]) bf171_9 bf171_10 rfl rfl).trans ?_
  exact bic bf171_10 rfl bf171_15 bf171_13 rfl rfl rfl
theorem bk171_15 {w : am_Wd} {l0 : Nat} {l2 : Int32} : am_run 171 15 [some (.ref l0), none, some (.int l2), none] [] w = (am_x 13 [.int (l2 / (nI 4)), .int (bj_irem l2 (nI 4))] w).bind fun r => bct r fun v w' => am_run 171 24 [some (.ref l0), none, none, none] (v.toList ++ []) w' := by
  refine (bu (ls'' := [some (.ref l0), none, some (.int l2), none]) (st' := [.int l2]) bf171_15 bf171_16 rfl rfl).trans ?_
  refine (bu (ls'' := [some (.ref l0), none, some (.int l2), none]) (st' := [.int (nI 4), .int l2]) bf171_16 bf171_17 rfl rfl).trans ?_
  refine (bu (ls'' := [some (.ref l0), none, some (.int l2), none]) (st' := [.int (l2 / (nI 4))]) bf171_17 bf171_18 rfl rfl).trans ?_
  refine (bu (ls'' := [some (.ref l0), none, none, none]) (st' := [.int l2, .int (l2 / (nI 4))]) bf171_18 bf171_19 rfl rfl).trans ?_
  refine (bu (ls'' := [some (.ref l0), none, none, none]) (st' := [.int (nI 4), .int l2, .int (l2 / (nI 4))]) bf171_19 bf171_20 rfl rfl).trans ?_
  refine (bu (ls'' := [some (.ref l0), none, none, none]) (st' := [.int (bj_irem l2 (nI 4)), .int (l2 / (nI 4))]) bf171_20 bf171_21 rfl rfl).trans ?_
  exact bkS bf171_21 bf171_24 rfl (by decide +kernel) (Nat.le_of_ble_eq_true rfl) rfl (bhd rfl)
theorem bk171_13 {w : am_Wd}  : am_run 171 13 [none, none, none, none] [] w = some (.inl (some (.int (nI 0))), w) := by
  refine (bu (ls'' := [none, none, none, none]) (st' := [.int (nI 0)]) bf171_13 bf171_14 rfl rfl).trans ?_
  exact am_e2 bf171_14 rfl (am_ge_rf w)
theorem bk171_24 {w : am_Wd} {l0 : Nat} {s0 : Int32} : am_run 171 24 [some (.ref l0), none, none, none] [.int s0] w = if s0 = (-1 : Int32) then am_run 171 48 [none, none, none, none] [] w else am_run 171 30 [some (.ref l0), none, none, some (.int s0)] [] w := by
  refine (bu (ls'' := [some (.ref l0), none, none, some (.int s0)]) (st' := []) bf171_24 bf171_25 rfl rfl).trans ?_
  refine (bu (ls'' := [some (.ref l0), none, none, some (.int s0)]) (st' := [.int s0]) bf171_25 bf171_26 rfl rfl).trans ?_
  refine (bu (ls'' := [some (.ref l0), none, none, some (.int s0)]) (st' := [.int (-1 : Int32), .int s0]) bf171_26 bf171_27 rfl rfl).trans ?_
  exact bic bf171_27 rfl bf171_48 bf171_30 rfl rfl rfl
theorem bk171_48 {w : am_Wd}  : am_run 171 48 [none, none, none, none] [] w = am_run 171 49 [none, none, none, none] [.int (nI 0)] w := by
  refine (bu (ls'' := [none, none, none, none]) (st' := [.int (nI 0)]) bf171_48 bf171_49 rfl rfl).trans ?_
  rfl
theorem bk171_30 {w : am_Wd} {l0 : Nat} {l3 : Int32} : am_run 171 30 [some (.ref l0), none, none, some (.int l3)] [] w = (am_gf w l0 8 0).bind fun v => am_run 171 34 [none, none, none, some (.int l3)] (v :: []) w := by
  refine (bu (ls'' := [none, none, none, some (.int l3)]) (st' := [.ref l0]) bf171_30 bf171_31 rfl rfl).trans ?_
  exact bh bf171_31 bf171_34 rfl (fun _ _ => am_ge_rf w) rfl
theorem bk171_49 {w : am_Wd} {s0 : Int32} (hb : am_ok (am_rt 1) (.int s0) = true) : am_run 171 49 [none, none, none, none] [.int s0] w = some (.inl (some (.int s0)), w) := by
  exact am_e2 bf171_49 (by unfold am_stp; exact if_pos ⟨by decide, hb⟩) (am_ge_rf w)
theorem bk171_34 {w : am_Wd} {l3 : Int32} {s0 : Nat} : am_run 171 34 [none, none, none, some (.int l3)] [.ref s0] w = (am_gf w s0 5 3).bind fun v => am_run 171 37 [none, none, none, some (.int l3)] (v :: []) w := by
  exact bh bf171_34 bf171_37 rfl (fun _ _ => am_ge_rf w) rfl
theorem bk171_37 {w : am_Wd} {l3 : Int32} {s0 : Int64} : am_run 171 37 [none, none, none, some (.int l3)] [.long s0] w = (am_x 11 [.long s0, .int l3] w).bind fun r => bct r fun v w' => am_run 171 41 [none, none, none, none] (v.toList ++ []) w' := by
  refine (bu (ls'' := [none, none, none, none]) (st' := [.int l3, .long s0]) bf171_37 bf171_38 rfl rfl).trans ?_
  exact bkS bf171_38 bf171_41 rfl (by decide +kernel) (Nat.le_of_ble_eq_true rfl) rfl (bhd rfl)
theorem bk171_41 {w : am_Wd} {s0 : Int32} : am_run 171 41 [none, none, none, none] [.int s0] w = if s0 = nI 0 then am_run 171 48 [none, none, none, none] [] w else am_run 171 44 [none, none, none, none] [] w := by
  exact bifc bf171_41 rfl bf171_48 bf171_44 rfl rfl rfl
theorem bk171_44 {w : am_Wd}  : am_run 171 44 [none, none, none, none] [] w = am_run 171 49 [none, none, none, none] [.int (nI 1)] w := by
  refine (bu (ls'' := [none, none, none, none]) (st' := [.int (nI 1)]) bf171_44 bf171_45 rfl rfl).trans ?_
  refine (bu (ls'' := [none, none, none, none]) (st' := [.int (nI 1)]) bf171_45 bf171_49 rfl rfl).trans ?_
  rfl
theorem bf172_0 : am_fetch (am_mth 172) 0 = some (.aload_n 0, 1, [], []) := by decide +kernel
theorem bf172_1 : am_fetch (am_mth 172) 1 = some (.invokespecial 1, 3, [1, 1164, 85, 86], []) := by decide +kernel
theorem bf172_4 : am_fetch (am_mth 172) 4 = some (.aload_n 0, 1, [], []) := by decide +kernel
theorem bf172_5 : am_fetch (am_mth 172) 5 = some (.bipush 7, 2, [], []) := by decide +kernel
theorem bf172_7 : am_fetch (am_mth 172) 7 = some (.putfield 7, 3, [0, 11, 2, 1199], []) := by decide +kernel
theorem bf172_10 : am_fetch (am_mth 172) 10 = some (.aload_n 0, 1, [], []) := by decide +kernel
theorem bf172_11 : am_fetch (am_mth 172) 11 = some (.bipush 36, 2, [], []) := by decide +kernel
theorem bf172_13 : am_fetch (am_mth 172) 13 = some (.iconst 2, 1, [], []) := by decide +kernel
theorem bf172_14 : am_fetch (am_mth 172) 14 = some (.multianewarray 13 2, 4, [6, 1165, 1166, 108], []) := by decide +kernel
theorem bf172_18 : am_fetch (am_mth 172) 18 = some (.putfield 15, 3, [0, 11, 7, 1204], []) := by decide +kernel
theorem bf172_21 : am_fetch (am_mth 172) 21 = some (.aload_n 0, 1, [], []) := by decide +kernel
theorem bf172_22 : am_fetch (am_mth 172) 22 = some (.bipush 36, 2, [], []) := by decide +kernel
theorem bf172_24 : am_fetch (am_mth 172) 24 = some (.iconst 2, 1, [], []) := by decide +kernel
theorem bf172_25 : am_fetch (am_mth 172) 25 = some (.multianewarray 13 2, 4, [6, 1165, 1166, 108], []) := by decide +kernel
theorem bf172_29 : am_fetch (am_mth 172) 29 = some (.putfield 18, 3, [0, 11, 8, 1205], []) := by decide +kernel
theorem bf172_32 : am_fetch (am_mth 172) 32 = some (.aload_n 0, 1, [], []) := by decide +kernel
theorem bf172_33 : am_fetch (am_mth 172) 33 = some (.bipush 36, 2, [], []) := by decide +kernel
theorem bf172_35 : am_fetch (am_mth 172) 35 = some (.newarray .boolean, 2, [2, 1196], []) := by decide +kernel
theorem bf172_37 : am_fetch (am_mth 172) 37 = some (.putfield 21, 3, [0, 11, 9, 1206], []) := by decide +kernel
theorem bf172_40 : am_fetch (am_mth 172) 40 = some (.aload_n 0, 1, [], []) := by decide +kernel
theorem bf172_41 : am_fetch (am_mth 172) 41 = some (.bipush 36, 2, [], []) := by decide +kernel
theorem bf172_43 : am_fetch (am_mth 172) 43 = some (.newarray .boolean, 2, [2, 1196], []) := by decide +kernel
theorem bf172_45 : am_fetch (am_mth 172) 45 = some (.putfield 25, 3, [0, 11, 10, 1207], []) := by decide +kernel
theorem bf172_48 : am_fetch (am_mth 172) 48 = some (.aload_n 0, 1, [], []) := by decide +kernel
theorem bf172_49 : am_fetch (am_mth 172) 49 = some (.new 28, 3, [0, 3, 3, 1167, 1168, 51], [0]) := by decide +kernel
theorem bf172_52 : am_fetch (am_mth 172) 52 = some (.dup, 1, [], [0]) := by decide +kernel
theorem bf172_53 : am_fetch (am_mth 172) 53 = some (.invokespecial 30, 3, [0, 151, 0, 1169, 1170, 51], [0]) := by decide +kernel
theorem bf172_56 : am_fetch (am_mth 172) 56 = some (.putfield 31, 3, [0, 11, 11, 1208], [0]) := by decide +kernel
theorem bf172_59 : am_fetch (am_mth 172) 59 = some (.return_, 1, [], [0]) := by decide +kernel
theorem bk172_0 {w : am_Wd} {l0 : Nat} : am_run 172 0 [some (.ref l0)] [] w = (am_pf w l0 11 2 (.int (nI 7))).bind fun w' => am_run 172 10 [some (.ref l0)] [] w' := by
  refine (bu (ls'' := [some (.ref l0)]) (st' := [.ref l0]) bf172_0 bf172_1 rfl rfl).trans ?_
  refine (bu (ls'' := [some (.ref l0)]) (st' := []) bf172_1 bf172_4 rfl rfl).trans ?_
  refine (bu (ls'' := [some (.ref l0)]) (st' := [.ref l0]) bf172_4 bf172_5 rfl rfl).trans ?_
  refine (bu (ls'' := [some (.ref l0)]) (st' := [.int (nI 7), .ref l0]) bf172_5 bf172_7 rfl rfl).trans ?_
  exact bh bf172_7 bf172_10 rfl (bge_pf) rfl
theorem bk172_10 {w : am_Wd} {l0 : Nat} : am_run 172 10 [some (.ref l0)] [] w = (am_mn w (nI 36) (nI 2)).bind fun w' => am_run 172 18 [some (.ref l0)] (.ref w.2.1 :: [.ref l0]) w' := by
  refine (bu (ls'' := [some (.ref l0)]) (st' := [.ref l0]) bf172_10 bf172_11 rfl rfl).trans ?_
  refine (bu (ls'' := [some (.ref l0)]) (st' := [.int (nI 36), .ref l0]) bf172_11 bf172_13 rfl rfl).trans ?_
  refine (bu (ls'' := [some (.ref l0)]) (st' := [.int (nI 2), .int (nI 36), .ref l0]) bf172_13 bf172_14 rfl rfl).trans ?_
  exact bh bf172_14 bf172_18 rfl (bge_mn) rfl
theorem bk172_18 {w : am_Wd} {l0 : Nat} {s0 : Nat} {s1 : Nat} : am_run 172 18 [some (.ref l0)] [.ref s0, .ref s1] w = (am_pf w s1 11 7 (.ref s0)).bind fun w' => am_run 172 21 [some (.ref l0)] [] w' := by
  exact bh bf172_18 bf172_21 rfl (bge_pf) rfl
theorem bk172_21 {w : am_Wd} {l0 : Nat} : am_run 172 21 [some (.ref l0)] [] w = (am_mn w (nI 36) (nI 2)).bind fun w' => am_run 172 29 [some (.ref l0)] (.ref w.2.1 :: [.ref l0]) w' := by
  refine (bu (ls'' := [some (.ref l0)]) (st' := [.ref l0]) bf172_21 bf172_22 rfl rfl).trans ?_
  refine (bu (ls'' := [some (.ref l0)]) (st' := [.int (nI 36), .ref l0]) bf172_22 bf172_24 rfl rfl).trans ?_
  refine (bu (ls'' := [some (.ref l0)]) (st' := [.int (nI 2), .int (nI 36), .ref l0]) bf172_24 bf172_25 rfl rfl).trans ?_
  exact bh bf172_25 bf172_29 rfl (bge_mn) rfl
theorem bk172_29 {w : am_Wd} {l0 : Nat} {s0 : Nat} {s1 : Nat} : am_run 172 29 [some (.ref l0)] [.ref s0, .ref s1] w = (am_pf w s1 11 8 (.ref s0)).bind fun w' => am_run 172 32 [some (.ref l0)] [] w' := by
  exact bh bf172_29 bf172_32 rfl (bge_pf) rfl
theorem bk172_32 {w : am_Wd} {l0 : Nat} : am_run 172 32 [some (.ref l0)] [] w = (am_na w 2 (nI 36)).bind fun w' => am_run 172 37 [some (.ref l0)] (.ref w.2.1 :: [.ref l0]) w' := by
  refine (bu (ls'' := [some (.ref l0)]) (st' := [.ref l0]) bf172_32 bf172_33 rfl rfl).trans ?_
  refine (bu (ls'' := [some (.ref l0)]) (st' := [.int (nI 36), .ref l0]) bf172_33 bf172_35 rfl rfl).trans ?_
  exact bh bf172_35 bf172_37 rfl (bge_na) rfl
theorem bk172_37 {w : am_Wd} {l0 : Nat} {s0 : Nat} {s1 : Nat} : am_run 172 37 [some (.ref l0)] [.ref s0, .ref s1] w = (am_pf w s1 11 9 (.ref s0)).bind fun w' => am_run 172 40 [some (.ref l0)] [] w' := by
  exact bh bf172_37 bf172_40 rfl (bge_pf) rfl
theorem bk172_40 {w : am_Wd} {l0 : Nat} : am_run 172 40 [some (.ref l0)] [] w = (am_na w 2 (nI 36)).bind fun w' => am_run 172 45 [some (.ref l0)] (.ref w.2.1 :: [.ref l0]) w' := by
  refine (bu (ls'' := [some (.ref l0)]) (st' := [.ref l0]) bf172_40 bf172_41 rfl rfl).trans ?_
  refine (bu (ls'' := [some (.ref l0)]) (st' := [.int (nI 36), .ref l0]) bf172_41 bf172_43 rfl rfl).trans ?_
  exact bh bf172_43 bf172_45 rfl (bge_na) rfl
theorem bk172_45 {w : am_Wd} {l0 : Nat} {s0 : Nat} {s1 : Nat} : am_run 172 45 [some (.ref l0)] [.ref s0, .ref s1] w = (am_pf w s1 11 10 (.ref s0)).bind fun w' => am_run 172 48 [some (.ref l0)] [] w' := by
  exact bh bf172_45 bf172_48 rfl (bge_pf) rfl
theorem bk172_48 {w : am_Wd} {l0 : Nat} : am_run 172 48 [some (.ref l0)] [] w = am_run 172 52 [none] (.ref w.2.1 :: [.ref l0]) (am_nw w (.inr (3, am_df 3 3)) 3) := by
  refine (bu (ls'' := [none]) (st' := [.ref l0]) bf172_48 bf172_49 rfl rfl).trans ?_
  exact bn bf172_49 bf172_52 rfl rfl (am_ge_nw _ _ _)
theorem bk172_52 {w : am_Wd} {s0 : Nat} {s1 : Nat} : am_run 172 52 [none] [.ref s0, .ref s1] w = (am_x 151 [.ref s0] w).bind fun r => bct r fun v w' => am_run 172 56 [none] (v.toList ++ [.ref s0, .ref s1]) w' := by
  refine (bu (ls'' := [none]) (st' := [.ref s0, .ref s0, .ref s1]) bf172_52 bf172_53 rfl rfl).trans ?_
  exact bkS bf172_53 bf172_56 rfl (by decide +kernel) (Nat.le_of_ble_eq_true rfl) rfl (bhd rfl)
theorem bk172_56 {w : am_Wd} {s0 : Nat} {s1 : Nat} : am_run 172 56 [none] [.ref s0, .ref s1] w = (am_pf w s1 11 11 (.ref s0)).bind fun w' => am_run 172 59 [none] [] w' := by
  exact bh bf172_56 bf172_59 rfl (bge_pf) rfl
theorem bk172_59 {w : am_Wd}  : am_run 172 59 [none] [] w = some (.inl none, w) := by
  exact am_e2 bf172_59 rfl (am_ge_rf w)
theorem bf173_0 : am_fetch (am_mth 173) 0 = some (.iload_n 1, 1, [], []) := by decide +kernel
theorem bf173_1 : am_fetch (am_mth 173) 1 = some (.iload_n 2, 1, [], []) := by decide +kernel
theorem bf173_2 : am_fetch (am_mth 173) 2 = some (.invokestatic 50, 3, [0, 100, 2, 1259, 1260, 48], []) := by decide +kernel
theorem bf173_5 : am_fetch (am_mth 173) 5 = some (.iconst (-1), 1, [], []) := by decide +kernel
theorem bf173_6 : am_fetch (am_mth 173) 6 = some (.if_icmp .eq 19, 3, [], []) := by decide +kernel
theorem bf173_9 : am_fetch (am_mth 173) 9 = some (.aload_n 0, 1, [], []) := by decide +kernel
theorem bf173_10 : am_fetch (am_mth 173) 10 = some (.iload_n 1, 1, [], [0]) := by decide +kernel
theorem bf173_11 : am_fetch (am_mth 173) 11 = some (.iload_n 2, 1, [], [0, 1]) := by decide +kernel
theorem bf173_12 : am_fetch (am_mth 173) 12 = some (.invokestatic 61, 3, [0, 142, 2, 1263, 1264, 48], [0, 1]) := by decide +kernel
theorem bf173_15 : am_fetch (am_mth 173) 15 = some (.iload_n 2, 1, [], [0, 1]) := by decide +kernel
theorem bf173_16 : am_fetch (am_mth 173) 16 = some (.invokestatic 64, 3, [0, 41, 1, 1266, 1267, 48], [0, 1, 2]) := by decide +kernel
theorem bf173_19 : am_fetch (am_mth 173) 19 = some (.invokevirtual 68, 3, [0, 101, 2, 11, 1442, 1444, 31, 48], [0, 1, 2]) := by decide +kernel
theorem bf173_22 : am_fetch (am_mth 173) 22 = some (.ifCond .eq 7, 3, [], [0, 1, 2]) := by decide +kernel
theorem bf173_25 : am_fetch (am_mth 173) 25 = some (.iconst 1, 1, [], [0, 1, 2]) := by decide +kernel
theorem bf173_26 : am_fetch (am_mth 173) 26 = some (.goto 4, 3, [], [0, 1, 2]) := by decide +kernel
theorem bf173_29 : am_fetch (am_mth 173) 29 = some (.iconst 0, 1, [], [0, 1, 2]) := by decide +kernel
theorem bf173_30 : am_fetch (am_mth 173) 30 = some (.ireturn, 1, [1], [0, 1, 2]) := by decide +kernel
theorem bk173_0 {w : am_Wd} {l0 : Nat} {l1 : Int32} {l2 : Int32} : am_run 173 0 [some (.ref l0), some (.int l1), some (.int l2)] [] w = (am_x 100 [.int l1, .int l2] w).bind fun r => bct r fun v w' => am_run 173 5 [some (.ref l0), some (.int l1), some (.int l2)] (v.toList ++ []) w' := by
  refine (bu (ls'' := [some (.ref l0), some (.int l1), some (.int l2)]) (st' := [.int l1]) bf173_0 bf173_1 rfl rfl).trans ?_
  refine (bu (ls'' := [some (.ref l0), some (.int l1), some (.int l2)]) (st' := [.int l2, .int l1]) bf173_1 bf173_2 rfl rfl).trans ?_
  exact bkS bf173_2 bf173_5 rfl (by decide +kernel) (Nat.le_of_ble_eq_true rfl) rfl (bhd rfl)
theorem bk173_5 {w : am_Wd} {l0 : Nat} {l1 : Int32} {l2 : Int32} {s0 : Int32} : am_run 173 5 [some (.ref l0), some (.int l1), some (.int l2)] [.int s0] w = if s0 = (-1 : Int32) then am_run 173 25 [none, none, none] [] w else am_run 173 9 [some (.ref l0), some (.int l1), some (.int l2)] [] w := by
  refine (bu (ls'' := [some (.ref l0), some (.int l1), some (.int l2)]) (st' := [.int (-1 : Int32), .int s0]) bf173_5 bf173_6 rfl rfl).trans ?_
  exact bic bf173_6 rfl bf173_25 bf173_9 rfl rfl rfl
theorem bk173_25 {w : am_Wd}  : am_run 173 25 [none, none, none] [] w = am_run 173 30 [none, none, none] [.int (nI 1)] w := by
  refine (bu (ls'' := [none, none, none]) (st' := [.int (nI 1)]) bf173_25 bf173_26 rfl rfl).trans ?_
  refine (bu (ls'' := [none, none, none]) (st' := [.int (nI 1)]) bf173_26 bf173_30 rfl rfl).trans ?_
  rfl
theorem bk173_9 {w : am_Wd} {l0 : Nat} {l1 : Int32} {l2 : Int32} : am_run 173 9 [some (.ref l0), some (.int l1), some (.int l2)] [] w = (am_x 142 [.int l1, .int l2] w).bind fun r => bct r fun v w' => am_run 173 15 [none, none, some (.int l2)] (v.toList ++ [.ref l0]) w' := by
  refine (bu (ls'' := [none, some (.int l1), some (.int l2)]) (st' := [.ref l0]) bf173_9 bf173_10 rfl rfl).trans ?_
  refine (bu (ls'' := [none, none, some (.int l2)]) (st' := [.int l1, .ref l0]) bf173_10 bf173_11 rfl rfl).trans ?_
  refine (bu (ls'' := [none, none, some (.int l2)]) (st' := [.int l2, .int l1, .ref l0]) bf173_11 bf173_12 rfl rfl).trans ?_
  exact bkS bf173_12 bf173_15 rfl (by decide +kernel) (Nat.le_of_ble_eq_true rfl) rfl (bhd rfl)
theorem bk173_30 {w : am_Wd} {s0 : Int32} (hb : am_ok (am_rt 1) (.int s0) = true) : am_run 173 30 [none, none, none] [.int s0] w = some (.inl (some (.int s0)), w) := by
  exact am_e2 bf173_30 (by unfold am_stp; exact if_pos ⟨by decide, hb⟩) (am_ge_rf w)
theorem bk173_15 {w : am_Wd} {l2 : Int32} {s0 : Int32} {s1 : Nat} : am_run 173 15 [none, none, some (.int l2)] [.int s0, .ref s1] w = (am_x 41 [.int l2] w).bind fun r => bct r fun v w' => am_run 173 19 [none, none, none] (v.toList ++ [.int s0, .ref s1]) w' := by
  refine (bu (ls'' := [none, none, none]) (st' := [.int l2, .int s0, .ref s1]) bf173_15 bf173_16 rfl rfl).trans ?_
  exact bkS bf173_16 bf173_19 rfl (by decide +kernel) (Nat.le_of_ble_eq_true rfl) rfl (bhd rfl)
theorem bk173_19 {w : am_Wd} {s0 : Int32} {s1 : Int32} {s2 : Nat} : am_run 173 19 [none, none, none] [.int s0, .int s1, .ref s2] w = (am_kf w s2 11).bind fun _ => (am_x 101 [.ref s2, .int s1, .int s0] w).bind fun r => bct r fun v w' => am_run 173 22 [none, none, none] (v.toList ++ []) w' := by
  exact bkV bf173_19 bf173_22 rfl (by decide +kernel) (Nat.le_of_ble_eq_true rfl) rfl (bhd rfl)
theorem bk173_22 {w : am_Wd} {s0 : Int32} : am_run 173 22 [none, none, none] [.int s0] w = if s0 = nI 0 then am_run 173 29 [none, none, none] [] w else am_run 173 25 [none, none, none] [] w := by
  exact bifc bf173_22 rfl bf173_29 bf173_25 rfl rfl rfl
theorem bk173_29 {w : am_Wd}  : am_run 173 29 [none, none, none] [] w = am_run 173 30 [none, none, none] [.int (nI 0)] w := by
  refine (bu (ls'' := [none, none, none]) (st' := [.int (nI 0)]) bf173_29 bf173_30 rfl rfl).trans ?_
  rfl
theorem bf174_0 : am_fetch (am_mth 174) 0 = some (.iload_n 1, 1, [], []) := by decide +kernel
theorem bf174_1 : am_fetch (am_mth 174) 1 = some (.iload_n 2, 1, [], []) := by decide +kernel
theorem bf174_2 : am_fetch (am_mth 174) 2 = some (.invokestatic 50, 3, [0, 100, 2, 1259, 1260, 48], []) := by decide +kernel
theorem bf174_5 : am_fetch (am_mth 174) 5 = some (.iconst (-1), 1, [], []) := by decide +kernel
theorem bf174_6 : am_fetch (am_mth 174) 6 = some (.if_icmp .ne 7, 3, [], []) := by decide +kernel
theorem bf174_9 : am_fetch (am_mth 174) 9 = some (.iconst 2, 1, [], [0, 1, 2]) := by decide +kernel
theorem bf174_10 : am_fetch (am_mth 174) 10 = some (.goto 18, 3, [], [0, 1, 2]) := by decide +kernel
theorem bf174_13 : am_fetch (am_mth 174) 13 = some (.aload_n 0, 1, [], []) := by decide +kernel
theorem bf174_14 : am_fetch (am_mth 174) 14 = some (.getfield 71, 3, [0, 10, 4, 1309], [0]) := by decide +kernel
theorem bf174_17 : am_fetch (am_mth 174) 17 = some (.iload_n 1, 1, [], [0]) := by decide +kernel
theorem bf174_18 : am_fetch (am_mth 174) 18 = some (.iload_n 2, 1, [], [0, 1]) := by decide +kernel
theorem bf174_19 : am_fetch (am_mth 174) 19 = some (.invokestatic 61, 3, [0, 142, 2, 1263, 1264, 48], [0, 1]) := by decide +kernel
theorem bf174_22 : am_fetch (am_mth 174) 22 = some (.aaload, 1, [], [0, 1]) := by decide +kernel
theorem bf174_23 : am_fetch (am_mth 174) 23 = some (.iload_n 2, 1, [], [0, 1]) := by decide +kernel
theorem bf174_24 : am_fetch (am_mth 174) 24 = some (.invokestatic 64, 3, [0, 41, 1, 1266, 1267, 48], [0, 1, 2]) := by decide +kernel
theorem bf174_27 : am_fetch (am_mth 174) 27 = some (.iaload, 1, [], [0, 1, 2]) := by decide +kernel
theorem bf174_28 : am_fetch (am_mth 174) 28 = some (.ireturn, 1, [0], [0, 1, 2]) := by decide +kernel
theorem bk174_0 {w : am_Wd} {l0 : Nat} {l1 : Int32} {l2 : Int32} : am_run 174 0 [some (.ref l0), some (.int l1), some (.int l2)] [] w = (am_x 100 [.int l1, .int l2] w).bind fun r => bct r fun v w' => am_run 174 5 [some (.ref l0), some (.int l1), some (.int l2)] (v.toList ++ []) w' := by
  refine (bu (ls'' := [some (.ref l0), some (.int l1), some (.int l2)]) (st' := [.int l1]) bf174_0 bf174_1 rfl rfl).trans ?_
  refine (bu (ls'' := [some (.ref l0), some (.int l1), some (.int l2)]) (st' := [.int l2, .int l1]) bf174_1 bf174_2 rfl rfl).trans ?_
  exact bkS bf174_2 bf174_5 rfl (by decide +kernel) (Nat.le_of_ble_eq_true rfl) rfl (bhd rfl)
theorem bk174_5 {w : am_Wd} {l0 : Nat} {l1 : Int32} {l2 : Int32} {s0 : Int32} : am_run 174 5 [some (.ref l0), some (.int l1), some (.int l2)] [.int s0] w = if ¬ s0 = (-1 : Int32) then am_run 174 13 [some (.ref l0), some (.int l1), some (.int l2)] [] w else am_run 174 9 [none, none, none] [] w := by
  refine (bu (ls'' := [some (.ref l0), some (.int l1), some (.int l2)]) (st' := [.int (-1 : Int32), .int s0]) bf174_5 bf174_6 rfl rfl).trans ?_
  exact bic bf174_6 rfl bf174_13 bf174_9 rfl rfl rfl
theorem bk174_13 {w : am_Wd} {l0 : Nat} {l1 : Int32} {l2 : Int32} : am_run 174 13 [some (.ref l0), some (.int l1), some (.int l2)] [] w = (am_gf w l0 10 4).bind fun v => am_run 174 17 [none, some (.int l1), some (.int l2)] (v :: []) w := by
  refine (bu (ls'' := [none, some (.int l1), some (.int l2)]) (st' := [.ref l0]) bf174_13 bf174_14 rfl rfl).trans ?_
  exact bh bf174_14 bf174_17 rfl (fun _ _ => am_ge_rf w) rfl
theorem bk174_9 {w : am_Wd}  : am_run 174 9 [none, none, none] [] w = am_run 174 28 [none, none, none] [.int (nI 2)] w := by
  refine (bu (ls'' := [none, none, none]) (st' := [.int (nI 2)]) bf174_9 bf174_10 rfl rfl).trans ?_
  refine (bu (ls'' := [none, none, none]) (st' := [.int (nI 2)]) bf174_10 bf174_28 rfl rfl).trans ?_
  rfl
theorem bk174_17 {w : am_Wd} {l1 : Int32} {l2 : Int32} {s0 : Nat} : am_run 174 17 [none, some (.int l1), some (.int l2)] [.ref s0] w = (am_x 142 [.int l1, .int l2] w).bind fun r => bct r fun v w' => am_run 174 22 [none, none, some (.int l2)] (v.toList ++ [.ref s0]) w' := by
  refine (bu (ls'' := [none, none, some (.int l2)]) (st' := [.int l1, .ref s0]) bf174_17 bf174_18 rfl rfl).trans ?_
  refine (bu (ls'' := [none, none, some (.int l2)]) (st' := [.int l2, .int l1, .ref s0]) bf174_18 bf174_19 rfl rfl).trans ?_
  exact bkS bf174_19 bf174_22 rfl (by decide +kernel) (Nat.le_of_ble_eq_true rfl) rfl (bhd rfl)
theorem bk174_28 {w : am_Wd} {s0 : Int32} : am_run 174 28 [none, none, none] [.int s0] w = some (.inl (some (.int s0)), w) := by
  exact am_e2 bf174_28 rfl (am_ge_rf w)
theorem bk174_22 {w : am_Wd} {l2 : Int32} {s0 : Int32} {s1 : Nat} : am_run 174 22 [none, none, some (.int l2)] [.int s0, .ref s1] w = (am_rq w s1 s0).bind fun v => am_run 174 23 [none, none, some (.int l2)] (v :: []) w := by
  exact bh bf174_22 bf174_23 rfl (fun _ _ => am_ge_rf w) rfl
theorem bk174_23 {w : am_Wd} {l2 : Int32} {s0 : Nat} : am_run 174 23 [none, none, some (.int l2)] [.ref s0] w = (am_x 41 [.int l2] w).bind fun r => bct r fun v w' => am_run 174 27 [none, none, none] (v.toList ++ [.ref s0]) w' := by
  refine (bu (ls'' := [none, none, none]) (st' := [.int l2, .ref s0]) bf174_23 bf174_24 rfl rfl).trans ?_
  exact bkS bf174_24 bf174_27 rfl (by decide +kernel) (Nat.le_of_ble_eq_true rfl) rfl (bhd rfl)
theorem bk174_27 {w : am_Wd} {s0 : Int32} {s1 : Nat} : am_run 174 27 [none, none, none] [.int s0, .ref s1] w = (am_ri 0 w s1 s0).bind fun v => am_run 174 28 [none, none, none] (.int v :: []) w := by
  exact bh bf174_27 bf174_28 rfl (fun _ _ => am_ge_rf w) rfl
theorem bf175_0 : am_fetch (am_mth 175) 0 = some (.iload_n 1, 1, [], []) := by decide +kernel
theorem bf175_1 : am_fetch (am_mth 175) 1 = some (.iload_n 2, 1, [], []) := by decide +kernel
theorem bf175_2 : am_fetch (am_mth 175) 2 = some (.invokestatic 50, 3, [0, 100, 2, 1259, 1260, 48], []) := by decide +kernel
theorem bf175_5 : am_fetch (am_mth 175) 5 = some (.iconst (-1), 1, [], []) := by decide +kernel
theorem bf175_6 : am_fetch (am_mth 175) 6 = some (.if_icmp .eq 27, 3, [], []) := by decide +kernel
theorem bf175_9 : am_fetch (am_mth 175) 9 = some (.aload_n 0, 1, [], []) := by decide +kernel
theorem bf175_10 : am_fetch (am_mth 175) 10 = some (.getfield 71, 3, [0, 10, 4, 1309], [0]) := by decide +kernel
theorem bf175_13 : am_fetch (am_mth 175) 13 = some (.iload_n 1, 1, [], [0]) := by decide +kernel
theorem bf175_14 : am_fetch (am_mth 175) 14 = some (.iload_n 2, 1, [], [0, 1]) := by decide +kernel
theorem bf175_15 : am_fetch (am_mth 175) 15 = some (.invokestatic 61, 3, [0, 142, 2, 1263, 1264, 48], [0, 1]) := by decide +kernel
theorem bf175_18 : am_fetch (am_mth 175) 18 = some (.aaload, 1, [], [0, 1]) := by decide +kernel
theorem bf175_19 : am_fetch (am_mth 175) 19 = some (.iload_n 2, 1, [], [0, 1]) := by decide +kernel
theorem bf175_20 : am_fetch (am_mth 175) 20 = some (.invokestatic 64, 3, [0, 41, 1, 1266, 1267, 48], [0, 1, 2]) := by decide +kernel
theorem bf175_23 : am_fetch (am_mth 175) 23 = some (.iload_n 3, 1, [], [0, 1, 2]) := by decide +kernel
theorem bf175_24 : am_fetch (am_mth 175) 24 = some (.ifCond .eq 7, 3, [], [0, 1, 2, 3]) := by decide +kernel
theorem bf175_27 : am_fetch (am_mth 175) 27 = some (.iconst 2, 1, [], [0, 1, 2, 3]) := by decide +kernel
theorem bf175_28 : am_fetch (am_mth 175) 28 = some (.goto 4, 3, [], [0, 1, 2, 3]) := by decide +kernel
theorem bf175_31 : am_fetch (am_mth 175) 31 = some (.iconst 1, 1, [], [0, 1, 2, 3]) := by decide +kernel
theorem bf175_32 : am_fetch (am_mth 175) 32 = some (.iastore, 1, [], [0, 1, 2, 3]) := by decide +kernel
theorem bf175_33 : am_fetch (am_mth 175) 33 = some (.return_, 1, [], [0, 1, 2, 3]) := by decide +kernel
theorem bk175_0 {w : am_Wd} {l0 : Nat} {l1 : Int32} {l2 : Int32} {l3 : Int32} : am_run 175 0 [some (.ref l0), some (.int l1), some (.int l2), some (.int l3)] [] w = (am_x 100 [.int l1, .int l2] w).bind fun r => bct r fun v w' => am_run 175 5 [some (.ref l0), some (.int l1), some (.int l2), some (.int l3)] (v.toList ++ []) w' := by
  refine (bu (ls'' := [some (.ref l0), some (.int l1), some (.int l2), some (.int l3)]) (st' := [.int l1]) bf175_0 bf175_1 rfl rfl).trans ?_
  refine (bu (ls'' := [some (.ref l0), some (.int l1), some (.int l2), some (.int l3)]) (st' := [.int l2, .int l1]) bf175_1 bf175_2 rfl rfl).trans ?_
  exact bkS bf175_2 bf175_5 rfl (by decide +kernel) (Nat.le_of_ble_eq_true rfl) rfl (bhd rfl)
theorem bk175_5 {w : am_Wd} {l0 : Nat} {l1 : Int32} {l2 : Int32} {l3 : Int32} {s0 : Int32} : am_run 175 5 [some (.ref l0), some (.int l1), some (.int l2), some (.int l3)] [.int s0] w = if s0 = (-1 : Int32) then am_run 175 33 [none, none, none, none] [] w else am_run 175 9 [some (.ref l0), some (.int l1), some (.int l2), some (.int l3)] [] w := by
  refine (bu (ls'' := [some (.ref l0), some (.int l1), some (.int l2), some (.int l3)]) (st' := [.int (-1 : Int32), .int s0]) bf175_5 bf175_6 rfl rfl).trans ?_
  exact bic bf175_6 rfl bf175_33 bf175_9 rfl rfl rfl
theorem bk175_33 {w : am_Wd}  : am_run 175 33 [none, none, none, none] [] w = some (.inl none, w) := by
  exact am_e2 bf175_33 rfl (am_ge_rf w)
theorem bk175_9 {w : am_Wd} {l0 : Nat} {l1 : Int32} {l2 : Int32} {l3 : Int32} : am_run 175 9 [some (.ref l0), some (.int l1), some (.int l2), some (.int l3)] [] w = (am_gf w l0 10 4).bind fun v => am_run 175 13 [none, some (.int l1), some (.int l2), some (.int l3)] (v :: []) w := by
  refine (bu (ls'' := [none, some (.int l1), some (.int l2), some (.int l3)]) (st' := [.ref l0]) bf175_9 bf175_10 rfl rfl).trans ?_
  exact bh bf175_10 bf175_13 rfl (fun _ _ => am_ge_rf w) rfl
theorem bk175_13 {w : am_Wd} {l1 : Int32} {l2 : Int32} {l3 : Int32} {s0 : Nat} : am_run 175 13 [none, some (.int l1), some (.int l2), some (.int l3)] [.ref s0] w = (am_x 142 [.int l1, .int l2] w).bind fun r => bct r fun v w' => am_run 175 18 [none, none, some (.int l2), some (.int l3)] (v.toList ++ [.ref s0]) w' := by
  refine (bu (ls'' := [none, none, some (.int l2), some (.int l3)]) (st' := [.int l1, .ref s0]) bf175_13 bf175_14 rfl rfl).trans ?_
  refine (bu (ls'' := [none, none, some (.int l2), some (.int l3)]) (st' := [.int l2, .int l1, .ref s0]) bf175_14 bf175_15 rfl rfl).trans ?_
  exact bkS bf175_15 bf175_18 rfl (by decide +kernel) (Nat.le_of_ble_eq_true rfl) rfl (bhd rfl)
theorem bk175_18 {w : am_Wd} {l2 : Int32} {l3 : Int32} {s0 : Int32} {s1 : Nat} : am_run 175 18 [none, none, some (.int l2), some (.int l3)] [.int s0, .ref s1] w = (am_rq w s1 s0).bind fun v => am_run 175 19 [none, none, some (.int l2), some (.int l3)] (v :: []) w := by
  exact bh bf175_18 bf175_19 rfl (fun _ _ => am_ge_rf w) rfl
theorem bk175_19 {w : am_Wd} {l2 : Int32} {l3 : Int32} {s0 : Nat} : am_run 175 19 [none, none, some (.int l2), some (.int l3)] [.ref s0] w = (am_x 41 [.int l2] w).bind fun r => bct r fun v w' => am_run 175 23 [none, none, none, some (.int l3)] (v.toList ++ [.ref s0]) w' := by
  refine (bu (ls'' := [none, none, none, some (.int l3)]) (st' := [.int l2, .ref s0]) bf175_19 bf175_20 rfl rfl).trans ?_
  exact bkS bf175_20 bf175_23 rfl (by decide +kernel) (Nat.le_of_ble_eq_true rfl) rfl (bhd rfl)
theorem bk175_23 {w : am_Wd} {l3 : Int32} {s0 : Int32} {s1 : Nat} : am_run 175 23 [none, none, none, some (.int l3)] [.int s0, .ref s1] w = if l3 = nI 0 then am_run 175 31 [none, none, none, none] [.int s0, .ref s1] w else am_run 175 27 [none, none, none, none] [.int s0, .ref s1] w := by
  refine (bu (ls'' := [none, none, none, none]) (st' := [.int l3, .int s0, .ref s1]) bf175_23 bf175_24 rfl rfl).trans ?_
  exact bifc bf175_24 rfl bf175_31 bf175_27 rfl rfl rfl
theorem bk175_31 {w : am_Wd} {s0 : Int32} {s1 : Nat} : am_run 175 31 [none, none, none, none] [.int s0, .ref s1] w = am_run 175 32 [none, none, none, none] [.int (nI 1), .int s0, .ref s1] w := by
  refine (bu (ls'' := [none, none, none, none]) (st' := [.int (nI 1), .int s0, .ref s1]) bf175_31 bf175_32 rfl rfl).trans ?_
  rfl
theorem bk175_27 {w : am_Wd} {s0 : Int32} {s1 : Nat} : am_run 175 27 [none, none, none, none] [.int s0, .ref s1] w = am_run 175 32 [none, none, none, none] [.int (nI 2), .int s0, .ref s1] w := by
  refine (bu (ls'' := [none, none, none, none]) (st' := [.int (nI 2), .int s0, .ref s1]) bf175_27 bf175_28 rfl rfl).trans ?_
  refine (bu (ls'' := [none, none, none, none]) (st' := [.int (nI 2), .int s0, .ref s1]) bf175_28 bf175_32 rfl rfl).trans ?_
  rfl
theorem bk175_32 {w : am_Wd} {s0 : Int32} {s1 : Int32} {s2 : Nat} : am_run 175 32 [none, none, none, none] [.int s0, .int s1, .ref s2] w = (am_wi 0 w s2 s1 s0).bind fun w' => am_run 175 33 [none, none, none, none] [] w' := by
  exact bh bf175_32 bf175_33 rfl (bge_wi) rfl
theorem bf176_0 : am_fetch (am_mth 176) 0 = some (.aload_n 0, 1, [], [5, 6]) := by decide +kernel
theorem bf176_1 : am_fetch (am_mth 176) 1 = some (.iload_n 1, 1, [], [5, 6]) := by decide +kernel
theorem bf176_2 : am_fetch (am_mth 176) 2 = some (.invokestatic 76, 3, [0, 97, 1, 1242, 1243, 48], [5, 6]) := by decide +kernel
theorem bf176_5 : am_fetch (am_mth 176) 5 = some (.ifCond .ne 10, 3, [], [5, 6]) := by decide +kernel
theorem bf176_8 : am_fetch (am_mth 176) 8 = some (.iload_n 2, 1, [], [5, 6]) := by decide +kernel
theorem bf176_9 : am_fetch (am_mth 176) 9 = some (.invokestatic 80, 3, [0, 98, 1, 1248, 1249, 48], [5, 6]) := by decide +kernel
theorem bf176_12 : am_fetch (am_mth 176) 12 = some (.ifCond .eq 7, 3, [], [5, 6]) := by decide +kernel
theorem bf176_15 : am_fetch (am_mth 176) 15 = some (.iconst 1, 1, [], [5, 6]) := by decide +kernel
theorem bf176_16 : am_fetch (am_mth 176) 16 = some (.goto 4, 3, [], [5, 6]) := by decide +kernel
theorem bf176_19 : am_fetch (am_mth 176) 19 = some (.iconst 0, 1, [], [5, 6]) := by decide +kernel
theorem bf176_20 : am_fetch (am_mth 176) 20 = some (.iconst 1, 1, [], [5, 6]) := by decide +kernel
theorem bf176_21 : am_fetch (am_mth 176) 21 = some (.invokevirtual 83, 3, [0, 96, 2, 11, 1251, 1253, 18, 48], [5, 6]) := by decide +kernel
theorem bf176_24 : am_fetch (am_mth 176) 24 = some (.ifCond .eq 5, 3, [], [5, 6]) := by decide +kernel
theorem bf176_27 : am_fetch (am_mth 176) 27 = some (.iconst 0, 1, [], [0, 1, 2, 3, 4, 5, 6]) := by decide +kernel
theorem bf176_28 : am_fetch (am_mth 176) 28 = some (.ireturn, 1, [0], [0, 1, 2, 3, 4, 5, 6]) := by decide +kernel
theorem bf176_29 : am_fetch (am_mth 176) 29 = some (.aload_n 0, 1, [], [5, 6]) := by decide +kernel
theorem bf176_30 : am_fetch (am_mth 176) 30 = some (.iload_n 1, 1, [], [5, 6]) := by decide +kernel
theorem bf176_31 : am_fetch (am_mth 176) 31 = some (.iload_n 2, 1, [], [5, 6]) := by decide +kernel
theorem bf176_32 : am_fetch (am_mth 176) 32 = some (.invokestatic 50, 3, [0, 100, 2, 1259, 1260, 48], [5, 6]) := by decide +kernel
theorem bf176_35 : am_fetch (am_mth 176) 35 = some (.iconst (-1), 1, [], [5, 6]) := by decide +kernel
theorem bf176_36 : am_fetch (am_mth 176) 36 = some (.if_icmp .eq 23, 3, [], [5, 6]) := by decide +kernel
theorem bf176_39 : am_fetch (am_mth 176) 39 = some (.iload_n 3, 1, [], [5, 6]) := by decide +kernel
theorem bf176_40 : am_fetch (am_mth 176) 40 = some (.iconst 0, 1, [], [5, 6]) := by decide +kernel
theorem bf176_41 : am_fetch (am_mth 176) 41 = some (.iconst 2, 1, [], [5, 6]) := by decide +kernel
theorem bf176_42 : am_fetch (am_mth 176) 42 = some (.invokestatic 42, 3, [0, 39, 3, 1245, 1246, 48], [5, 6]) := by decide +kernel
theorem bf176_45 : am_fetch (am_mth 176) 45 = some (.ifCond .eq 14, 3, [], [5, 6]) := by decide +kernel
theorem bf176_48 : am_fetch (am_mth 176) 48 = some (.iload 4, 2, [], [5, 6]) := by decide +kernel
theorem bf176_50 : am_fetch (am_mth 176) 50 = some (.iconst 0, 1, [], [5, 6]) := by decide +kernel
theorem bf176_51 : am_fetch (am_mth 176) 51 = some (.ldc 86, 2, [0, 16777215, 1262], [5, 6]) := by decide +kernel
theorem bf176_53 : am_fetch (am_mth 176) 53 = some (.invokestatic 42, 3, [0, 39, 3, 1245, 1246, 48], [5, 6]) := by decide +kernel
theorem bf176_56 : am_fetch (am_mth 176) 56 = some (.ifCond .ne 7, 3, [], [5, 6]) := by decide +kernel
theorem bf176_59 : am_fetch (am_mth 176) 59 = some (.iconst 1, 1, [], [5, 6]) := by decide +kernel
theorem bf176_60 : am_fetch (am_mth 176) 60 = some (.goto 4, 3, [], [5, 6]) := by decide +kernel
theorem bf176_63 : am_fetch (am_mth 176) 63 = some (.iconst 0, 1, [], [5, 6]) := by decide +kernel
theorem bf176_64 : am_fetch (am_mth 176) 64 = some (.iconst 2, 1, [], [5, 6]) := by decide +kernel
theorem bf176_65 : am_fetch (am_mth 176) 65 = some (.invokevirtual 38, 3, [0, 40, 2, 11, 1255, 1257, 19, 48], [5, 6]) := by decide +kernel
theorem bf176_68 : am_fetch (am_mth 176) 68 = some (.ifCond .eq 5, 3, [], [5, 6]) := by decide +kernel
theorem bf176_71 : am_fetch (am_mth 176) 71 = some (.iconst 0, 1, [], [0, 1, 2, 3, 4, 5, 6]) := by decide +kernel
theorem bf176_72 : am_fetch (am_mth 176) 72 = some (.ireturn, 1, [0], [0, 1, 2, 3, 4, 5, 6]) := by decide +kernel
theorem bf176_73 : am_fetch (am_mth 176) 73 = some (.iload_n 1, 1, [], [5, 6]) := by decide +kernel
theorem bf176_74 : am_fetch (am_mth 176) 74 = some (.iload_n 2, 1, [], [1, 5, 6]) := by decide +kernel
theorem bf176_75 : am_fetch (am_mth 176) 75 = some (.invokestatic 61, 3, [0, 142, 2, 1263, 1264, 48], [1, 5, 6]) := by decide +kernel
theorem bf176_78 : am_fetch (am_mth 176) 78 = some (.istore 5, 2, [], [1, 5, 6]) := by decide +kernel
theorem bf176_80 : am_fetch (am_mth 176) 80 = some (.aload_n 0, 1, [], [1, 6]) := by decide +kernel
theorem bf176_81 : am_fetch (am_mth 176) 81 = some (.getfield 15, 3, [0, 11, 7, 1204], [1, 6]) := by decide +kernel
theorem bf176_84 : am_fetch (am_mth 176) 84 = some (.iload 5, 2, [], [1, 6]) := by decide +kernel
theorem bf176_86 : am_fetch (am_mth 176) 86 = some (.aaload, 1, [], [1, 6]) := by decide +kernel
theorem bf176_87 : am_fetch (am_mth 176) 87 = some (.iload_n 2, 1, [], [1, 6]) := by decide +kernel
theorem bf176_88 : am_fetch (am_mth 176) 88 = some (.invokestatic 64, 3, [0, 41, 1, 1266, 1267, 48], [1, 6]) := by decide +kernel
theorem bf176_91 : am_fetch (am_mth 176) 91 = some (.iaload, 1, [], [1, 6]) := by decide +kernel
theorem bf176_92 : am_fetch (am_mth 176) 92 = some (.istore 6, 2, [], [1, 6]) := by decide +kernel
theorem bf176_94 : am_fetch (am_mth 176) 94 = some (.aload_n 0, 1, [], [1]) := by decide +kernel
theorem bf176_95 : am_fetch (am_mth 176) 95 = some (.getfield 15, 3, [0, 11, 7, 1204], [1]) := by decide +kernel
theorem bf176_98 : am_fetch (am_mth 176) 98 = some (.iload 5, 2, [], [1]) := by decide +kernel
theorem bf176_100 : am_fetch (am_mth 176) 100 = some (.aaload, 1, [], [1]) := by decide +kernel
theorem bf176_101 : am_fetch (am_mth 176) 101 = some (.iload_n 2, 1, [], [1]) := by decide +kernel
theorem bf176_102 : am_fetch (am_mth 176) 102 = some (.invokestatic 64, 3, [0, 41, 1, 1266, 1267, 48], [1]) := by decide +kernel
theorem bf176_105 : am_fetch (am_mth 176) 105 = some (.iload_n 3, 1, [], [1]) := by decide +kernel
theorem bf176_106 : am_fetch (am_mth 176) 106 = some (.iastore, 1, [], [1]) := by decide +kernel
theorem bf176_107 : am_fetch (am_mth 176) 107 = some (.aload_n 0, 1, [], [1]) := by decide +kernel
theorem bf176_108 : am_fetch (am_mth 176) 108 = some (.getfield 18, 3, [0, 11, 8, 1205], [0, 1]) := by decide +kernel
theorem bf176_111 : am_fetch (am_mth 176) 111 = some (.iload 5, 2, [], [0, 1]) := by decide +kernel
theorem bf176_113 : am_fetch (am_mth 176) 113 = some (.aaload, 1, [], [0, 1, 5]) := by decide +kernel
theorem bf176_114 : am_fetch (am_mth 176) 114 = some (.iload_n 2, 1, [], [0, 1, 5]) := by decide +kernel
theorem bf176_115 : am_fetch (am_mth 176) 115 = some (.invokestatic 64, 3, [0, 41, 1, 1266, 1267, 48], [0, 1, 2, 5]) := by decide +kernel
theorem bf176_118 : am_fetch (am_mth 176) 118 = some (.iload_n 3, 1, [], [0, 1, 2, 5]) := by decide +kernel
theorem bf176_119 : am_fetch (am_mth 176) 119 = some (.iconst 2, 1, [], [0, 1, 2, 3, 5]) := by decide +kernel
theorem bf176_120 : am_fetch (am_mth 176) 120 = some (.if_icmp .ne 8, 3, [], [0, 1, 2, 3, 5]) := by decide +kernel
theorem bf176_123 : am_fetch (am_mth 176) 123 = some (.iload 4, 2, [], [0, 1, 2, 3, 5]) := by decide +kernel
theorem bf176_125 : am_fetch (am_mth 176) 125 = some (.goto 4, 3, [], [0, 1, 2, 3, 4, 5]) := by decide +kernel
theorem bf176_128 : am_fetch (am_mth 176) 128 = some (.iconst 0, 1, [], [0, 1, 2, 3, 4, 5]) := by decide +kernel
theorem bf176_129 : am_fetch (am_mth 176) 129 = some (.iastore, 1, [], [0, 1, 2, 3, 4, 5]) := by decide +kernel
theorem bf176_130 : am_fetch (am_mth 176) 130 = some (.iload 6, 2, [], [0, 1, 2, 3, 4, 5]) := by decide +kernel
theorem bf176_132 : am_fetch (am_mth 176) 132 = some (.ireturn, 1, [0], [0, 1, 2, 3, 4, 5, 6]) := by decide +kernel
theorem bk176_0 {w : am_Wd} {l0 : Nat} {l1 : Int32} {l2 : Int32} {l3 : Int32} {l4 : Int32} : am_run 176 0 [some (.ref l0), some (.int l1), some (.int l2), some (.int l3), some (.int l4), none, none] [] w = (am_x 97 [.int l1] w).bind fun r => bct r fun v w' => am_run 176 5 [some (.ref l0), some (.int l1), some (.int l2), some (.int l3), some (.int l4), none, none] (v.toList ++ [.ref l0]) w' := by
  refine (bu (ls'' := [some (.ref l0), some (.int l1), some (.int l2), some (.int l3), some (.int l4), none, none]) (st' := [.ref l0]) bf176_0 bf176_1 rfl rfl).trans ?_
  refine (bu (ls'' := [some (.ref l0), some (.int l1), some (.int l2), some (.int l3), some (.int l4), none, none]) (st' := [.int l1, .ref l0]) bf176_1 bf176_2 rfl rfl).trans ?_
  exact bkS bf176_2 bf176_5 rfl (by decide +kernel) (Nat.le_of_ble_eq_true rfl) rfl (bhd rfl)
theorem bk176_5 {w : am_Wd} {l0 : Nat} {l1 : Int32} {l2 : Int32} {l3 : Int32} {l4 : Int32} {s0 : Int32} {s1 : Nat} : am_run 176 5 [some (.ref l0), some (.int l1), some (.int l2), some (.int l3), some (.int l4), none, none] [.int s0, .ref s1] w = if ¬ s0 = nI 0 then am_run 176 15 [some (.ref l0), some (.int l1), some (.int l2), some (.int l3), some (.int l4), none, none] [.ref s1] w else am_run 176 8 [some (.ref l0), some (.int l1), some (.int l2), some (.int l3), some (.int l4), none, none] [.ref s1] w := by
  exact bifc bf176_5 rfl bf176_15 bf176_8 rfl rfl rfl
theorem bk176_15 {w : am_Wd} {l0 : Nat} {l1 : Int32} {l2 : Int32} {l3 : Int32} {l4 : Int32} {s0 : Nat} : am_run 176 15 [some (.ref l0), some (.int l1), some (.int l2), some (.int l3), some (.int l4), none, none] [.ref s0] w = am_run 176 20 [some (.ref l0), some (.int l1), some (.int l2), some (.int l3), some (.int l4), none, none] [.int (nI 1), .ref s0] w := by
  refine (bu (ls'' := [some (.ref l0), some (.int l1), some (.int l2), some (.int l3), some (.int l4), none, none]) (st' := [.int (nI 1), .ref s0]) bf176_15 bf176_16 rfl rfl).trans ?_
  refine (bu (ls'' := [some (.ref l0), some (.int l1), some (.int l2), some (.int l3), some (.int l4), none, none]) (st' := [.int (nI 1), .ref s0]) bf176_16 bf176_20 rfl rfl).trans ?_
  rfl
theorem bk176_8 {w : am_Wd} {l0 : Nat} {l1 : Int32} {l2 : Int32} {l3 : Int32} {l4 : Int32} {s0 : Nat} : am_run 176 8 [some (.ref l0), some (.int l1), some (.int l2), some (.int l3), some (.int l4), none, none] [.ref s0] w = (am_x 98 [.int l2] w).bind fun r => bct r fun v w' => am_run 176 12 [some (.ref l0), some (.int l1), some (.int l2), some (.int l3), some (.int l4), none, none] (v.toList ++ [.ref s0]) w' := by
  refine (bu (ls'' := [some (.ref l0), some (.int l1), some (.int l2), some (.int l3), some (.int l4), none, none]) (st' := [.int l2, .ref s0]) bf176_8 bf176_9 rfl rfl).trans ?_
  exact bkS bf176_9 bf176_12 rfl (by decide +kernel) (Nat.le_of_ble_eq_true rfl) rfl (bhd rfl)
theorem bk176_20 {w : am_Wd} {l0 : Nat} {l1 : Int32} {l2 : Int32} {l3 : Int32} {l4 : Int32} {s0 : Int32} {s1 : Nat} : am_run 176 20 [some (.ref l0), some (.int l1), some (.int l2), some (.int l3), some (.int l4), none, none] [.int s0, .ref s1] w = (am_kf w s1 11).bind fun _ => (am_x 96 [.ref s1, .int s0, .int (nI 1)] w).bind fun r => bct r fun v w' => am_run 176 24 [some (.ref l0), some (.int l1), some (.int l2), some (.int l3), some (.int l4), none, none] (v.toList ++ []) w' := by
  refine (bu (ls'' := [some (.ref l0), some (.int l1), some (.int l2), some (.int l3), some (.int l4), none, none]) (st' := [.int (nI 1), .int s0, .ref s1]) bf176_20 bf176_21 rfl rfl).trans ?_
  exact bkV bf176_21 bf176_24 rfl (by decide +kernel) (Nat.le_of_ble_eq_true rfl) rfl (bhd rfl)
theorem bk176_12 {w : am_Wd} {l0 : Nat} {l1 : Int32} {l2 : Int32} {l3 : Int32} {l4 : Int32} {s0 : Int32} {s1 : Nat} : am_run 176 12 [some (.ref l0), some (.int l1), some (.int l2), some (.int l3), some (.int l4), none, none] [.int s0, .ref s1] w = if s0 = nI 0 then am_run 176 19 [some (.ref l0), some (.int l1), some (.int l2), some (.int l3), some (.int l4), none, none] [.ref s1] w else am_run 176 15 [some (.ref l0), some (.int l1), some (.int l2), some (.int l3), some (.int l4), none, none] [.ref s1] w := by
  exact bifc bf176_12 rfl bf176_19 bf176_15 rfl rfl rfl
theorem bk176_24 {w : am_Wd} {l0 : Nat} {l1 : Int32} {l2 : Int32} {l3 : Int32} {l4 : Int32} {s0 : Int32} : am_run 176 24 [some (.ref l0), some (.int l1), some (.int l2), some (.int l3), some (.int l4), none, none] [.int s0] w = if s0 = nI 0 then am_run 176 29 [some (.ref l0), some (.int l1), some (.int l2), some (.int l3), some (.int l4), none, none] [] w else am_run 176 27 [none, none, none, none, none, none, none] [] w := by
  exact bifc bf176_24 rfl bf176_29 bf176_27 rfl rfl rfl
theorem bk176_19 {w : am_Wd} {l0 : Nat} {l1 : Int32} {l2 : Int32} {l3 : Int32} {l4 : Int32} {s0 : Nat} : am_run 176 19 [some (.ref l0), some (.int l1), some (.int l2), some (.int l3), some (.int l4), none, none] [.ref s0] w = am_run 176 20 [some (.ref l0), some (.int l1), some (.int l2), some (.int l3), some (.int l4), none, none] [.int (nI 0), .ref s0] w := by
  refine (bu (ls'' := [some (.ref l0), some (.int l1), some (.int l2), some (.int l3), some (.int l4), none, none]) (st' := [.int (nI 0), .ref s0]) bf176_19 bf176_20 rfl rfl).trans ?_
  rfl
theorem bk176_29 {w : am_Wd} {l0 : Nat} {l1 : Int32} {l2 : Int32} {l3 : Int32} {l4 : Int32} : am_run 176 29 [some (.ref l0), some (.int l1), some (.int l2), some (.int l3), some (.int l4), none, none] [] w = (am_x 100 [.int l1, .int l2] w).bind fun r => bct r fun v w' => am_run 176 35 [some (.ref l0), some (.int l1), some (.int l2), some (.int l3), some (.int l4), none, none] (v.toList ++ [.ref l0]) w' := by
  refine (bu (ls'' := [some (.ref l0), some (.int l1), some (.int l2), some (.int l3), some (.int l4), none, none]) (st' := [.ref l0]) bf176_29 bf176_30 rfl rfl).trans ?_
  refine (bu (ls'' := [some (.ref l0), some (.int l1), some (.int l2), some (.int l3), some (.int l4), none, none]) (st' := [.int l1, .ref l0]) bf176_30 bf176_31 rfl rfl).trans ?_
  refine (bu (ls'' := [some (.ref l0), some (.int l1), some (.int l2), some (.int l3), some (.int l4), none, none]) (st' := [.int l2, .int l1, .ref l0]) bf176_31 bf176_32 rfl rfl).trans ?_
  exact bkS bf176_32 bf176_35 rfl (by decide +kernel) (Nat.le_of_ble_eq_true rfl) rfl (bhd rfl)
theorem bk176_27 {w : am_Wd}  : am_run 176 27 [none, none, none, none, none, none, none] [] w = some (.inl (some (.int (nI 0))), w) := by
  refine (bu (ls'' := [none, none, none, none, none, none, none]) (st' := [.int (nI 0)]) bf176_27 bf176_28 rfl rfl).trans ?_
  exact am_e2 bf176_28 rfl (am_ge_rf w)
theorem bk176_35 {w : am_Wd} {l0 : Nat} {l1 : Int32} {l2 : Int32} {l3 : Int32} {l4 : Int32} {s0 : Int32} {s1 : Nat} : am_run 176 35 [some (.ref l0), some (.int l1), some (.int l2), some (.int l3), some (.int l4), none, none] [.int s0, .ref s1] w = if s0 = (-1 : Int32) then am_run 176 59 [some (.ref l0), some (.int l1), some (.int l2), some (.int l3), some (.int l4), none, none] [.ref s1] w else am_run 176 39 [some (.ref l0), some (.int l1), some (.int l2), some (.int l3), some (.int l4), none, none] [.ref s1] w := by
  refine (bu (ls'' := [some (.ref l0), some (.int l1), some (.int l2), some (.int l3), some (.int l4), none, none]) (st' := [.int (-1 : Int32), .int s0, .ref s1]) bf176_35 bf176_36 rfl rfl).trans ?_
  exact bic bf176_36 rfl bf176_59 bf176_39 rfl rfl rfl
theorem bk176_59 {w : am_Wd} {l0 : Nat} {l1 : Int32} {l2 : Int32} {l3 : Int32} {l4 : Int32} {s0 : Nat} : am_run 176 59 [some (.ref l0), some (.int l1), some (.int l2), some (.int l3), some (.int l4), none, none] [.ref s0] w = am_run 176 64 [some (.ref l0), some (.int l1), some (.int l2), some (.int l3), some (.int l4), none, none] [.int (nI 1), .ref s0] w := by
  refine (bu (ls'' := [some (.ref l0), some (.int l1), some (.int l2), some (.int l3), some (.int l4), none, none]) (st' := [.int (nI 1), .ref s0]) bf176_59 bf176_60 rfl rfl).trans ?_
  refine (bu (ls'' := [some (.ref l0), some (.int l1), some (.int l2), some (.int l3), some (.int l4), none, none]) (st' := [.int (nI 1), .ref s0]) bf176_60 bf176_64 rfl rfl).trans ?_
  rfl
theorem bk176_39 {w : am_Wd} {l0 : Nat} {l1 : Int32} {l2 : Int32} {l3 : Int32} {l4 : Int32} {s0 : Nat} : am_run 176 39 [some (.ref l0), some (.int l1), some (.int l2), some (.int l3), some (.int l4), none, none] [.ref s0] w = (am_x 39 [.int l3, .int (nI 0), .int (nI 2)] w).bind fun r => bct r fun v w' => am_run 176 45 [some (.ref l0), some (.int l1), some (.int l2), some (.int l3), some (.int l4), none, none] (v.toList ++ [.ref s0]) w' := by
  refine (bu (ls'' := [some (.ref l0), some (.int l1), some (.int l2), some (.int l3), some (.int l4), none, none]) (st' := [.int l3, .ref s0]) bf176_39 bf176_40 rfl rfl).trans ?_
  refine (bu (ls'' := [some (.ref l0), some (.int l1), some (.int l2), some (.int l3), some (.int l4), none, none]) (st' := [.int (nI 0), .int l3, .ref s0]) bf176_40 bf176_41 rfl rfl).trans ?_
  refine (bu (ls'' := [some (.ref l0), some (.int l1), some (.int l2), some (.int l3), some (.int l4), none, none]) (st' := [.int (nI 2), .int (nI 0), .int l3, .ref s0]) bf176_41 bf176_42 rfl rfl).trans ?_
  exact bkS bf176_42 bf176_45 rfl (by decide +kernel) (Nat.le_of_ble_eq_true rfl) rfl (bhd rfl)
theorem bk176_64 {w : am_Wd} {l0 : Nat} {l1 : Int32} {l2 : Int32} {l3 : Int32} {l4 : Int32} {s0 : Int32} {s1 : Nat} : am_run 176 64 [some (.ref l0), some (.int l1), some (.int l2), some (.int l3), some (.int l4), none, none] [.int s0, .ref s1] w = (am_kf w s1 11).bind fun _ => (am_x 40 [.ref s1, .int s0, .int (nI 2)] w).bind fun r => bct r fun v w' => am_run 176 68 [some (.ref l0), some (.int l1), some (.int l2), some (.int l3), some (.int l4), none, none] (v.toList ++ []) w' := by
  refine (bu (ls'' := [some (.ref l0), some (.int l1), some (.int l2), some (.int l3), some (.int l4), none, none]) (st' := [.int (nI 2), .int s0, .ref s1]) bf176_64 bf176_65 rfl rfl).trans ?_
  exact bkV bf176_65 bf176_68 rfl (by decide +kernel) (Nat.le_of_ble_eq_true rfl) rfl (bhd rfl)
theorem bk176_45 {w : am_Wd} {l0 : Nat} {l1 : Int32} {l2 : Int32} {l3 : Int32} {l4 : Int32} {s0 : Int32} {s1 : Nat} : am_run 176 45 [some (.ref l0), some (.int l1), some (.int l2), some (.int l3), some (.int l4), none, none] [.int s0, .ref s1] w = if s0 = nI 0 then am_run 176 59 [some (.ref l0), some (.int l1), some (.int l2), some (.int l3), some (.int l4), none, none] [.ref s1] w else am_run 176 48 [some (.ref l0), some (.int l1), some (.int l2), some (.int l3), some (.int l4), none, none] [.ref s1] w := by
  exact bifc bf176_45 rfl bf176_59 bf176_48 rfl rfl rfl
theorem bk176_68 {w : am_Wd} {l0 : Nat} {l1 : Int32} {l2 : Int32} {l3 : Int32} {l4 : Int32} {s0 : Int32} : am_run 176 68 [some (.ref l0), some (.int l1), some (.int l2), some (.int l3), some (.int l4), none, none] [.int s0] w = if s0 = nI 0 then am_run 176 73 [some (.ref l0), some (.int l1), some (.int l2), some (.int l3), some (.int l4), none, none] [] w else am_run 176 71 [none, none, none, none, none, none, none] [] w := by
  exact bifc bf176_68 rfl bf176_73 bf176_71 rfl rfl rfl
theorem bk176_48 {w : am_Wd} {l0 : Nat} {l1 : Int32} {l2 : Int32} {l3 : Int32} {l4 : Int32} {s0 : Nat} : am_run 176 48 [some (.ref l0), some (.int l1), some (.int l2), some (.int l3), some (.int l4), none, none] [.ref s0] w = (am_x 39 [.int l4, .int (nI 0), .int (nI 16777215)] w).bind fun r => bct r fun v w' => am_run 176 56 [some (.ref l0), some (.int l1), some (.int l2), some (.int l3), some (.int l4), none, none] (v.toList ++ [.ref s0]) w' := by
  refine (bu (ls'' := [some (.ref l0), some (.int l1), some (.int l2), some (.int l3), some (.int l4), none, none]) (st' := [.int l4, .ref s0]) bf176_48 bf176_50 rfl rfl).trans ?_
  refine (bu (ls'' := [some (.ref l0), some (.int l1), some (.int l2), some (.int l3), some (.int l4), none, none]) (st' := [.int (nI 0), .int l4, .ref s0]) bf176_50 bf176_51 rfl rfl).trans ?_
  refine (bu (ls'' := [some (.ref l0), some (.int l1), some (.int l2), some (.int l3), some (.int l4), none, none]) (st' := [.int (nI 16777215), .int (nI 0), .int l4, .ref s0]) bf176_51 bf176_53 rfl rfl).trans ?_
  exact bkS bf176_53 bf176_56 rfl (by decide +kernel) (Nat.le_of_ble_eq_true rfl) rfl (bhd rfl)
theorem bk176_73 {w : am_Wd} {l0 : Nat} {l1 : Int32} {l2 : Int32} {l3 : Int32} {l4 : Int32} : am_run 176 73 [some (.ref l0), some (.int l1), some (.int l2), some (.int l3), some (.int l4), none, none] [] w = (am_x 142 [.int l1, .int l2] w).bind fun r => bct r fun v w' => am_run 176 78 [some (.ref l0), none, some (.int l2), some (.int l3), some (.int l4), none, none] (v.toList ++ []) w' := by
  refine (bu (ls'' := [some (.ref l0), none, some (.int l2), some (.int l3), some (.int l4), none, none]) (st' := [.int l1]) bf176_73 bf176_74 rfl rfl).trans ?_
  refine (bu (ls'' := [some (.ref l0), none, some (.int l2), some (.int l3), some (.int l4), none, none]) (st' := [.int l2, .int l1]) bf176_74 bf176_75 rfl rfl).trans ?_
  exact bkS bf176_75 bf176_78 rfl (by decide +kernel) (Nat.le_of_ble_eq_true rfl) rfl (bhd rfl)
theorem bk176_71 {w : am_Wd}  : am_run 176 71 [none, none, none, none, none, none, none] [] w = some (.inl (some (.int (nI 0))), w) := by
  refine (bu (ls'' := [none, none, none, none, none, none, none]) (st' := [.int (nI 0)]) bf176_71 bf176_72 rfl rfl).trans ?_
  exact am_e2 bf176_72 rfl (am_ge_rf w)
theorem bk176_56 {w : am_Wd} {l0 : Nat} {l1 : Int32} {l2 : Int32} {l3 : Int32} {l4 : Int32} {s0 : Int32} {s1 : Nat} : am_run 176 56 [some (.ref l0), some (.int l1), some (.int l2), some (.int l3), some (.int l4), none, none] [.int s0, .ref s1] w = if ¬ s0 = nI 0 then am_run 176 63 [some (.ref l0), some (.int l1), some (.int l2), some (.int l3), some (.int l4), none, none] [.ref s1] w else am_run 176 59 [some (.ref l0), some (.int l1), some (.int l2), some (.int l3), some (.int l4), none, none] [.ref s1] w := by
  exact bifc bf176_56 rfl bf176_63 bf176_59 rfl rfl rfl
theorem bk176_78 {w : am_Wd} {l0 : Nat} {l2 : Int32} {l3 : Int32} {l4 : Int32} {s0 : Int32} : am_run 176 78 [some (.ref l0), none, some (.int l2), some (.int l3), some (.int l4), none, none] [.int s0] w = (am_gf w l0 11 7).bind fun v => am_run 176 84 [some (.ref l0), none, some (.int l2), some (.int l3), some (.int l4), some (.int s0), none] (v :: []) w := by
  refine (bu (ls'' := [some (.ref l0), none, some (.int l2), some (.int l3), some (.int l4), some (.int s0), none]) (st' := []) bf176_78 bf176_80 rfl rfl).trans ?_
  refine (bu (ls'' := [some (.ref l0), none, some (.int l2), some (.int l3), some (.int l4), some (.int s0), none]) (st' := [.ref l0]) bf176_80 bf176_81 rfl rfl).trans ?_
  exact bh bf176_81 bf176_84 rfl (fun _ _ => am_ge_rf w) rfl
theorem bk176_63 {w : am_Wd} {l0 : Nat} {l1 : Int32} {l2 : Int32} {l3 : Int32} {l4 : Int32} {s0 : Nat} : am_run 176 63 [some (.ref l0), some (.int l1), some (.int l2), some (.int l3), some (.int l4), none, none] [.ref s0] w = am_run 176 64 [some (.ref l0), some (.int l1), some (.int l2), some (.int l3), some (.int l4), none, none] [.int (nI 0), .ref s0] w := by
  refine (bu (ls'' := [some (.ref l0), some (.int l1), some (.int l2), some (.int l3), some (.int l4), none, none]) (st' := [.int (nI 0), .ref s0]) bf176_63 bf176_64 rfl rfl).trans ?_
  rfl
theorem bk176_84 {w : am_Wd} {l0 : Nat} {l2 : Int32} {l3 : Int32} {l4 : Int32} {l5 : Int32} {s0 : Nat} : am_run 176 84 [some (.ref l0), none, some (.int l2), some (.int l3), some (.int l4), some (.int l5), none] [.ref s0] w = (am_rq w s0 l5).bind fun v => am_run 176 87 [some (.ref l0), none, some (.int l2), some (.int l3), some (.int l4), some (.int l5), none] (v :: []) w := by
  refine (bu (ls'' := [some (.ref l0), none, some (.int l2), some (.int l3), some (.int l4), some (.int l5), none]) (st' := [.int l5, .ref s0]) bf176_84 bf176_86 rfl rfl).trans ?_
  exact bh bf176_86 bf176_87 rfl (fun _ _ => am_ge_rf w) rfl
theorem bk176_87 {w : am_Wd} {l0 : Nat} {l2 : Int32} {l3 : Int32} {l4 : Int32} {l5 : Int32} {s0 : Nat} : am_run 176 87 [some (.ref l0), none, some (.int l2), some (.int l3), some (.int l4), some (.int l5), none] [.ref s0] w = (am_x 41 [.int l2] w).bind fun r => bct r fun v w' => am_run 176 91 [some (.ref l0), none, some (.int l2), some (.int l3), some (.int l4), some (.int l5), none] (v.toList ++ [.ref s0]) w' := by
  refine (bu (ls'' := [some (.ref l0), none, some (.int l2), some (.int l3), some (.int l4), some (.int l5), none]) (st' := [.int l2, .ref s0]) bf176_87 bf176_88 rfl rfl).trans ?_
  exact bkS bf176_88 bf176_91 rfl (by decide +kernel) (Nat.le_of_ble_eq_true rfl) rfl (bhd rfl)
theorem bk176_91 {w : am_Wd} {l0 : Nat} {l2 : Int32} {l3 : Int32} {l4 : Int32} {l5 : Int32} {s0 : Int32} {s1 : Nat} : am_run 176 91 [some (.ref l0), none, some (.int l2), some (.int l3), some (.int l4), some (.int l5), none] [.int s0, .ref s1] w = (am_ri 0 w s1 s0).bind fun v => am_run 176 92 [some (.ref l0), none, some (.int l2), some (.int l3), some (.int l4), some (.int l5), none] (.int v :: []) w := by
  exact bh bf176_91 bf176_92 rfl (fun _ _ => am_ge_rf w) rfl
theorem bk176_92 {w : am_Wd} {l0 : Nat} {l2 : Int32} {l3 : Int32} {l4 : Int32} {l5 : Int32} {s0 : Int32} : am_run 176 92 [some (.ref l0), none, some (.int l2), some (.int l3), some (.int l4), some (.int l5), none] [.int s0] w = (am_gf w l0 11 7).bind fun v => am_run 176 98 [some (.ref l0), none, some (.int l2), some (.int l3), some (.int l4), some (.int l5), some (.int s0)] (v :: []) w := by
  refine (bu (ls'' := [some (.ref l0), none, some (.int l2), some (.int l3), some (.int l4), some (.int l5), some (.int s0)]) (st' := []) bf176_92 bf176_94 rfl rfl).trans ?_
  refine (bu (ls'' := [some (.ref l0), none, some (.int l2), some (.int l3), some (.int l4), some (.int l5), some (.int s0)]) (st' := [.ref l0]) bf176_94 bf176_95 rfl rfl).trans ?_
  exact bh bf176_95 bf176_98 rfl (fun _ _ => am_ge_rf w) rfl
theorem bk176_98 {w : am_Wd} {l0 : Nat} {l2 : Int32} {l3 : Int32} {l4 : Int32} {l5 : Int32} {l6 : Int32} {s0 : Nat} : am_run 176 98 [some (.ref l0), none, some (.int l2), some (.int l3), some (.int l4), some (.int l5), some (.int l6)] [.ref s0] w = (am_rq w s0 l5).bind fun v => am_run 176 101 [some (.ref l0), none, some (.int l2), some (.int l3), some (.int l4), some (.int l5), some (.int l6)] (v :: []) w := by
  refine (bu (ls'' := [some (.ref l0), none, some (.int l2), some (.int l3), some (.int l4), some (.int l5), some (.int l6)]) (st' := [.int l5, .ref s0]) bf176_98 bf176_100 rfl rfl).trans ?_
  exact bh bf176_100 bf176_101 rfl (fun _ _ => am_ge_rf w) rfl
theorem bk176_101 {w : am_Wd} {l0 : Nat} {l2 : Int32} {l3 : Int32} {l4 : Int32} {l5 : Int32} {l6 : Int32} {s0 : Nat} : am_run 176 101 [some (.ref l0), none, some (.int l2), some (.int l3), some (.int l4), some (.int l5), some (.int l6)] [.ref s0] w = (am_x 41 [.int l2] w).bind fun r => bct r fun v w' => am_run 176 105 [some (.ref l0), none, some (.int l2), some (.int l3), some (.int l4), some (.int l5), some (.int l6)] (v.toList ++ [.ref s0]) w' := by
  refine (bu (ls'' := [some (.ref l0), none, some (.int l2), some (.int l3), some (.int l4), some (.int l5), some (.int l6)]) (st' := [.int l2, .ref s0]) bf176_101 bf176_102 rfl rfl).trans ?_
  exact bkS bf176_102 bf176_105 rfl (by decide +kernel) (Nat.le_of_ble_eq_true rfl) rfl (bhd rfl)
theorem bk176_105 {w : am_Wd} {l0 : Nat} {l2 : Int32} {l3 : Int32} {l4 : Int32} {l5 : Int32} {l6 : Int32} {s0 : Int32} {s1 : Nat} : am_run 176 105 [some (.ref l0), none, some (.int l2), some (.int l3), some (.int l4), some (.int l5), some (.int l6)] [.int s0, .ref s1] w = (am_wi 0 w s1 s0 l3).bind fun w' => am_run 176 107 [some (.ref l0), none, some (.int l2), some (.int l3), some (.int l4), some (.int l5), some (.int l6)] [] w' := by
  refine (bu (ls'' := [some (.ref l0), none, some (.int l2), some (.int l3), some (.int l4), some (.int l5), some (.int l6)]) (st' := [.int l3, .int s0, .ref s1]) bf176_105 bf176_106 rfl rfl).trans ?_
  exact bh bf176_106 bf176_107 rfl (bge_wi) rfl
theorem bk176_107 {w : am_Wd} {l0 : Nat} {l2 : Int32} {l3 : Int32} {l4 : Int32} {l5 : Int32} {l6 : Int32} : am_run 176 107 [some (.ref l0), none, some (.int l2), some (.int l3), some (.int l4), some (.int l5), some (.int l6)] [] w = (am_gf w l0 11 8).bind fun v => am_run 176 111 [none, none, some (.int l2), some (.int l3), some (.int l4), some (.int l5), some (.int l6)] (v :: []) w := by
  refine (bu (ls'' := [none, none, some (.int l2), some (.int l3), some (.int l4), some (.int l5), some (.int l6)]) (st' := [.ref l0]) bf176_107 bf176_108 rfl rfl).trans ?_
  exact bh bf176_108 bf176_111 rfl (fun _ _ => am_ge_rf w) rfl
theorem bk176_111 {w : am_Wd} {l2 : Int32} {l3 : Int32} {l4 : Int32} {l5 : Int32} {l6 : Int32} {s0 : Nat} : am_run 176 111 [none, none, some (.int l2), some (.int l3), some (.int l4), some (.int l5), some (.int l6)] [.ref s0] w = (am_rq w s0 l5).bind fun v => am_run 176 114 [none, none, some (.int l2), some (.int l3), some (.int l4), none, some (.int l6)] (v :: []) w := by
  refine (bu (ls'' := [none, none, some (.int l2), some (.int l3), some (.int l4), none, some (.int l6)]) (st' := [.int l5, .ref s0]) bf176_111 bf176_113 rfl rfl).trans ?_
  exact bh bf176_113 bf176_114 rfl (fun _ _ => am_ge_rf w) rfl
theorem bk176_114 {w : am_Wd} {l2 : Int32} {l3 : Int32} {l4 : Int32} {l6 : Int32} {s0 : Nat} : am_run 176 114 [none, none, some (.int l2), some (.int l3), some (.int l4), none, some (.int l6)] [.ref s0] w = (am_x 41 [.int l2] w).bind fun r => bct r fun v w' => am_run 176 118 [none, none, none, some (.int l3), some (.int l4), none, some (.int l6)] (v.toList ++ [.ref s0]) w' := by
  refine (bu (ls'' := [none, none, none, some (.int l3), some (.int l4), none, some (.int l6)]) (st' := [.int l2, .ref s0]) bf176_114 bf176_115 rfl rfl).trans ?_
  exact bkS bf176_115 bf176_118 rfl (by decide +kernel) (Nat.le_of_ble_eq_true rfl) rfl (bhd rfl)
theorem bk176_118 {w : am_Wd} {l3 : Int32} {l4 : Int32} {l6 : Int32} {s0 : Int32} {s1 : Nat} : am_run 176 118 [none, none, none, some (.int l3), some (.int l4), none, some (.int l6)] [.int s0, .ref s1] w = if ¬ l3 = (nI 2) then am_run 176 128 [none, none, none, none, none, none, some (.int l6)] [.int s0, .ref s1] w else am_run 176 123 [none, none, none, none, some (.int l4), none, some (.int l6)] [.int s0, .ref s1] w := by
  refine (bu (ls'' := [none, none, none, none, some (.int l4), none, some (.int l6)]) (st' := [.int l3, .int s0, .ref s1]) bf176_118 bf176_119 rfl rfl).trans ?_
  refine (bu (ls'' := [none, none, none, none, some (.int l4), none, some (.int l6)]) (st' := [.int (nI 2), .int l3, .int s0, .ref s1]) bf176_119 bf176_120 rfl rfl).trans ?_
  exact bic bf176_120 rfl bf176_128 bf176_123 rfl rfl rfl
theorem bk176_128 {w : am_Wd} {l6 : Int32} {s0 : Int32} {s1 : Nat} : am_run 176 128 [none, none, none, none, none, none, some (.int l6)] [.int s0, .ref s1] w = am_run 176 129 [none, none, none, none, none, none, some (.int l6)] [.int (nI 0), .int s0, .ref s1] w := by
  refine (bu (ls'' := [none, none, none, none, none, none, some (.int l6)]) (st' := [.int (nI 0), .int s0, .ref s1]) bf176_128 bf176_129 rfl rfl).trans ?_
  rfl
theorem bk176_123 {w : am_Wd} {l4 : Int32} {l6 : Int32} {s0 : Int32} {s1 : Nat} : am_run 176 123 [none, none, none, none, some (.int l4), none, some (.int l6)] [.int s0, .ref s1] w = am_run 176 129 [none, none, none, none, none, none, some (.int l6)] [.int l4, .int s0, .ref s1] w := by
  refine (bu (ls'' := [none, none, none, none, none, none, some (.int l6)]) (st' := [.int l4, .int s0, .ref s1]) bf176_123 bf176_125 rfl rfl).trans ?_
  refine (bu (ls'' := [none, none, none, none, none, none, some (.int l6)]) (st' := [.int l4, .int s0, .ref s1]) bf176_125 bf176_129 rfl rfl).trans ?_
  rfl
theorem bk176_129 {w : am_Wd} {l6 : Int32} {s0 : Int32} {s1 : Int32} {s2 : Nat} : am_run 176 129 [none, none, none, none, none, none, some (.int l6)] [.int s0, .int s1, .ref s2] w = (am_wi 0 w s2 s1 s0).bind fun w' => am_run 176 130 [none, none, none, none, none, none, some (.int l6)] [] w' := by
  exact bh bf176_129 bf176_130 rfl (bge_wi) rfl
theorem bk176_130 {w : am_Wd} {l6 : Int32} : am_run 176 130 [none, none, none, none, none, none, some (.int l6)] [] w = some (.inl (some (.int l6)), w) := by
  refine (bu (ls'' := [none, none, none, none, none, none, none]) (st' := [.int l6]) bf176_130 bf176_132 rfl rfl).trans ?_
  exact am_e2 bf176_132 rfl (am_ge_rf w)
theorem bf177_0 : am_fetch (am_mth 177) 0 = some (.iconst 0, 1, [], [2, 3, 4]) := by decide +kernel
theorem bf177_1 : am_fetch (am_mth 177) 1 = some (.istore_n 2, 1, [], [2, 3, 4]) := by decide +kernel
theorem bf177_2 : am_fetch (am_mth 177) 2 = some (.iconst 0, 1, [], [3, 4]) := by decide +kernel
theorem bf177_3 : am_fetch (am_mth 177) 3 = some (.istore_n 3, 1, [], [3, 4]) := by decide +kernel
theorem bf177_4 : am_fetch (am_mth 177) 4 = some (.iload_n 3, 1, [], [4]) := by decide +kernel
theorem bf177_5 : am_fetch (am_mth 177) 5 = some (.bipush 36, 2, [], [4]) := by decide +kernel
theorem bf177_7 : am_fetch (am_mth 177) 7 = some (.if_icmp .ge 54, 3, [], [4]) := by decide +kernel
theorem bf177_10 : am_fetch (am_mth 177) 10 = some (.iconst 0, 1, [], [4]) := by decide +kernel
theorem bf177_11 : am_fetch (am_mth 177) 11 = some (.istore 4, 2, [], [4]) := by decide +kernel
theorem bf177_13 : am_fetch (am_mth 177) 13 = some (.iload 4, 2, [], []) := by decide +kernel
theorem bf177_15 : am_fetch (am_mth 177) 15 = some (.iconst 2, 1, [], []) := by decide +kernel
theorem bf177_16 : am_fetch (am_mth 177) 16 = some (.if_icmp .ge 39, 3, [], []) := by decide +kernel
theorem bf177_19 : am_fetch (am_mth 177) 19 = some (.iload_n 2, 1, [], []) := by decide +kernel
theorem bf177_20 : am_fetch (am_mth 177) 20 = some (.iload_n 3, 1, [], [2]) := by decide +kernel
theorem bf177_21 : am_fetch (am_mth 177) 21 = some (.iload 4, 2, [], [2]) := by decide +kernel
theorem bf177_23 : am_fetch (am_mth 177) 23 = some (.invokestatic 87, 3, [0, 143, 2, 1273, 1274, 48], [2]) := by decide +kernel
theorem bf177_26 : am_fetch (am_mth 177) 26 = some (.ifCond .eq 20, 3, [], [2]) := by decide +kernel
theorem bf177_29 : am_fetch (am_mth 177) 29 = some (.aload_n 0, 1, [], [2]) := by decide +kernel
theorem bf177_30 : am_fetch (am_mth 177) 30 = some (.getfield 15, 3, [0, 11, 7, 1204], [2]) := by decide +kernel
theorem bf177_33 : am_fetch (am_mth 177) 33 = some (.iload_n 3, 1, [], [2]) := by decide +kernel
theorem bf177_34 : am_fetch (am_mth 177) 34 = some (.aaload, 1, [], [2]) := by decide +kernel
theorem bf177_35 : am_fetch (am_mth 177) 35 = some (.iload 4, 2, [], [2]) := by decide +kernel
theorem bf177_37 : am_fetch (am_mth 177) 37 = some (.iaload, 1, [], [2]) := by decide +kernel
theorem bf177_38 : am_fetch (am_mth 177) 38 = some (.iload_n 1, 1, [], [2]) := by decide +kernel
theorem bf177_39 : am_fetch (am_mth 177) 39 = some (.if_icmp .ne 7, 3, [], [2]) := by decide +kernel
theorem bf177_42 : am_fetch (am_mth 177) 42 = some (.iconst 1, 1, [], [2]) := by decide +kernel
theorem bf177_43 : am_fetch (am_mth 177) 43 = some (.goto 4, 3, [], [2]) := by decide +kernel
theorem bf177_46 : am_fetch (am_mth 177) 46 = some (.iconst 0, 1, [], [2]) := by decide +kernel
theorem bf177_47 : am_fetch (am_mth 177) 47 = some (.iadd, 1, [], [2]) := by decide +kernel
theorem bf177_48 : am_fetch (am_mth 177) 48 = some (.istore_n 2, 1, [], [2]) := by decide +kernel
theorem bf177_49 : am_fetch (am_mth 177) 49 = some (.iinc 4 1, 3, [], []) := by decide +kernel
theorem bf177_52 : am_fetch (am_mth 177) 52 = some (.goto (-39), 3, [], []) := by decide +kernel
theorem bf177_55 : am_fetch (am_mth 177) 55 = some (.iinc 3 1, 3, [], [4]) := by decide +kernel
theorem bf177_58 : am_fetch (am_mth 177) 58 = some (.goto (-54), 3, [], [4]) := by decide +kernel
theorem bf177_61 : am_fetch (am_mth 177) 61 = some (.iload_n 2, 1, [], [0, 1, 3, 4]) := by decide +kernel
theorem bf177_62 : am_fetch (am_mth 177) 62 = some (.ireturn, 1, [0], [0, 1, 2, 3, 4]) := by decide +kernel
theorem bk177_0 {w : am_Wd} {l0 : Nat} {l1 : Int32} : am_run 177 0 [some (.ref l0), some (.int l1), none, none, none] [] w = am_run 177 4 [some (.ref l0), some (.int l1), some (.int (nI 0)), some (.int (nI 0)), none] [] w := by
  refine (bu (ls'' := [some (.ref l0), some (.int l1), none, none, none]) (st' := [.int (nI 0)]) bf177_0 bf177_1 rfl rfl).trans ?_
  refine (bu (ls'' := [some (.ref l0), some (.int l1), some (.int (nI 0)), none, none]) (st' := []) bf177_1 bf177_2 rfl rfl).trans ?_
  refine (bu (ls'' := [some (.ref l0), some (.int l1), some (.int (nI 0)), none, none]) (st' := [.int (nI 0)]) bf177_2 bf177_3 rfl rfl).trans ?_
  refine (bu (ls'' := [some (.ref l0), some (.int l1), some (.int (nI 0)), some (.int (nI 0)), none]) (st' := []) bf177_3 bf177_4 rfl rfl).trans ?_
  rfl
theorem bk177_4 {w : am_Wd} {l0 : Nat} {l1 : Int32} {l2 : Int32} {l3 : Int32} : am_run 177 4 [some (.ref l0), some (.int l1), some (.int l2), some (.int l3), none] [] w = if (nI 36) ≤ l3 then am_run 177 61 [none, none, some (.int l2), none, none] [] w else am_run 177 10 [some (.ref l0), some (.int l1), some (.int l2), some (.int l3), none] [] w := by
  refine (bu (ls'' := [some (.ref l0), some (.int l1), some (.int l2), some (.int l3), none]) (st' := [.int l3]) bf177_4 bf177_5 rfl rfl).trans ?_
  refine (bu (ls'' := [some (.ref l0), some (.int l1), some (.int l2), some (.int l3), none]) (st' := [.int (nI 36), .int l3]) bf177_5 bf177_7 rfl rfl).trans ?_
  exact bic bf177_7 rfl bf177_61 bf177_10 rfl rfl rfl
theorem bk177_61 {w : am_Wd} {l2 : Int32} : am_run 177 61 [none, none, some (.int l2), none, none] [] w = some (.inl (some (.int l2)), w) := by
  refine (bu (ls'' := [none, none, none, none, none]) (st' := [.int l2]) bf177_61 bf177_62 rfl rfl).trans ?_
  exact am_e2 bf177_62 rfl (am_ge_rf w)
theorem bk177_10 {w : am_Wd} {l0 : Nat} {l1 : Int32} {l2 : Int32} {l3 : Int32} : am_run 177 10 [some (.ref l0), some (.int l1), some (.int l2), some (.int l3), none] [] w = am_run 177 13 [some (.ref l0), some (.int l1), some (.int l2), some (.int l3), some (.int (nI 0))] [] w := by
  refine (bu (ls'' := [some (.ref l0), some (.int l1), some (.int l2), some (.int l3), none]) (st' := [.int (nI 0)]) bf177_10 bf177_11 rfl rfl).trans ?_
  refine (bu (ls'' := [some (.ref l0), some (.int l1), some (.int l2), some (.int l3), some (.int (nI 0))]) (st' := []) bf177_11 bf177_13 rfl rfl).trans ?_
  rfl
theorem bk177_13 {w : am_Wd} {l0 : Nat} {l1 : Int32} {l2 : Int32} {l3 : Int32} {l4 : Int32} : am_run 177 13 [some (.ref l0), some (.int l1), some (.int l2), some (.int l3), some (.int l4)] [] w = if (nI 2) ≤ l4 then am_run 177 55 [some (.ref l0), some (.int l1), some (.int l2), some (.int l3), none] [] w else am_run 177 19 [some (.ref l0), some (.int l1), some (.int l2), some (.int l3), some (.int l4)] [] w := by
  refine (bu (ls'' := [some (.ref l0), some (.int l1), some (.int l2), some (.int l3), some (.int l4)]) (st' := [.int l4]) bf177_13 bf177_15 rfl rfl).trans ?_
  refine (bu (ls'' := [some (.ref l0), some (.int l1), some (.int l2), some (.int l3), some (.int l4)]) (st' := [.int (nI 2), .int l4]) bf177_15 bf177_16 rfl rfl).trans ?_
  exact bic bf177_16 rfl bf177_55 bf177_19 rfl rfl rfl
theorem bk177_55 {w : am_Wd} {l0 : Nat} {l1 : Int32} {l2 : Int32} {l3 : Int32} : am_run 177 55 [some (.ref l0), some (.int l1), some (.int l2), some (.int l3), none] [] w = am_run 177 4 [some (.ref l0), some (.int l1), some (.int l2), some (.int (l3 + (nI 1))), none] [] w := by
  refine (bu (ls'' := [some (.ref l0), some (.int l1), some (.int l2), some (.int (l3 + (nI 1))), none]) (st' := []) bf177_55 bf177_58 rfl rfl).trans ?_
  refine (bu (ls'' := [some (.ref l0), some (.int l1), some (.int l2), some (.int (l3 + (nI 1))), none]) (st' := []) bf177_58 bf177_4 rfl rfl).trans ?_
  rfl
theorem bk177_19 {w : am_Wd} {l0 : Nat} {l1 : Int32} {l2 : Int32} {l3 : Int32} {l4 : Int32} : am_run 177 19 [some (.ref l0), some (.int l1), some (.int l2), some (.int l3), some (.int l4)] [] w = (am_x 143 [.int l3, .int l4] w).bind fun r => bct r fun v w' => am_run 177 26 [some (.ref l0), some (.int l1), none, some (.int l3), some (.int l4)] (v.toList ++ [.int l2]) w' := by
  refine (bu (ls'' := [some (.ref l0), some (.int l1), none, some (.int l3), some (.int l4)]) (st' := [.int l2]) bf177_19 bf177_20 rfl rfl).trans ?_
  refine (bu (ls'' := [some (.ref l0), some (.int l1), none, some (.int l3), some (.int l4)]) (st' := [.int l3, .int l2]) bf177_20 bf177_21 rfl rfl).trans ?_
  refine (bu (ls'' := [some (.ref l0), some (.int l1), none, some (.int l3), some (.int l4)]) (st' := [.int l4, .int l3, .int l2]) bf177_21 bf177_23 rfl rfl).trans ?_
  exact bkS bf177_23 bf177_26 rfl (by decide +kernel) (Nat.le_of_ble_eq_true rfl) rfl (bhd rfl)
theorem bk177_26 {w : am_Wd} {l0 : Nat} {l1 : Int32} {l3 : Int32} {l4 : Int32} {s0 : Int32} {s1 : Int32} : am_run 177 26 [some (.ref l0), some (.int l1), none, some (.int l3), some (.int l4)] [.int s0, .int s1] w = if s0 = nI 0 then am_run 177 46 [some (.ref l0), some (.int l1), none, some (.int l3), some (.int l4)] [.int s1] w else am_run 177 29 [some (.ref l0), some (.int l1), none, some (.int l3), some (.int l4)] [.int s1] w := by
  exact bifc bf177_26 rfl bf177_46 bf177_29 rfl rfl rfl
theorem bk177_46 {w : am_Wd} {l0 : Nat} {l1 : Int32} {l3 : Int32} {l4 : Int32} {s0 : Int32} : am_run 177 46 [some (.ref l0), some (.int l1), none, some (.int l3), some (.int l4)] [.int s0] w = am_run 177 47 [some (.ref l0), some (.int l1), none, some (.int l3), some (.int l4)] [.int (nI 0), .int s0] w := by
  refine (bu (ls'' := [some (.ref l0), some (.int l1), none, some (.int l3), some (.int l4)]) (st' := [.int (nI 0), .int s0]) bf177_46 bf177_47 rfl rfl).trans ?_
  rfl
theorem bk177_29 {w : am_Wd} {l0 : Nat} {l1 : Int32} {l3 : Int32} {l4 : Int32} {s0 : Int32} : am_run 177 29 [some (.ref l0), some (.int l1), none, some (.int l3), some (.int l4)] [.int s0] w = (am_gf w l0 11 7).bind fun v => am_run 177 33 [some (.ref l0), some (.int l1), none, some (.int l3), some (.int l4)] (v :: [.int s0]) w := by
  refine (bu (ls'' := [some (.ref l0), some (.int l1), none, some (.int l3), some (.int l4)]) (st' := [.ref l0, .int s0]) bf177_29 bf177_30 rfl rfl).trans ?_
  exact bh bf177_30 bf177_33 rfl (fun _ _ => am_ge_rf w) rfl
theorem bk177_47 {w : am_Wd} {l0 : Nat} {l1 : Int32} {l3 : Int32} {l4 : Int32} {s0 : Int32} {s1 : Int32} : am_run 177 47 [some (.ref l0), some (.int l1), none, some (.int l3), some (.int l4)] [.int s0, .int s1] w = am_run 177 13 [some (.ref l0), some (.int l1), some (.int (s1 + s0)), some (.int l3), some (.int (l4 + (nI 1)))] [] w := by
  refine (bu (ls'' := [some (.ref l0), some (.int l1), none, some (.int l3), some (.int l4)]) (st' := [.int (s1 + s0)]) bf177_47 bf177_48 rfl rfl).trans ?_
  refine (bu (ls'' := [some (.ref l0), some (.int l1), some (.int (s1 + s0)), some (.int l3), some (.int l4)]) (st' := []) bf177_48 bf177_49 rfl rfl).trans ?_
  refine (bu (ls'' := [some (.ref l0), some (.int l1), some (.int (s1 + s0)), some (.int l3), some (.int (l4 + (nI 1)))]) (st' := []) bf177_49 bf177_52 rfl rfl).trans ?_
  refine (bu (ls'' := [some (.ref l0), some (.int l1), some (.int (s1 + s0)), some (.int l3), some (.int (l4 + (nI 1)))]) (st' := []) bf177_52 bf177_13 rfl rfl).trans ?_
  rfl
theorem bk177_33 {w : am_Wd} {l0 : Nat} {l1 : Int32} {l3 : Int32} {l4 : Int32} {s0 : Nat} {s1 : Int32} : am_run 177 33 [some (.ref l0), some (.int l1), none, some (.int l3), some (.int l4)] [.ref s0, .int s1] w = (am_rq w s0 l3).bind fun v => am_run 177 35 [some (.ref l0), some (.int l1), none, some (.int l3), some (.int l4)] (v :: [.int s1]) w := by
  refine (bu (ls'' := [some (.ref l0), some (.int l1), none, some (.int l3), some (.int l4)]) (st' := [.int l3, .ref s0, .int s1]) bf177_33 bf177_34 rfl rfl).trans ?_
  exact bh bf177_34 bf177_35 rfl (fun _ _ => am_ge_rf w) rfl
theorem bk177_35 {w : am_Wd} {l0 : Nat} {l1 : Int32} {l3 : Int32} {l4 : Int32} {s0 : Nat} {s1 : Int32} : am_run 177 35 [some (.ref l0), some (.int l1), none, some (.int l3), some (.int l4)] [.ref s0, .int s1] w = (am_ri 0 w s0 l4).bind fun v => am_run 177 38 [some (.ref l0), some (.int l1), none, some (.int l3), some (.int l4)] (.int v :: [.int s1]) w := by
  refine (bu (ls'' := [some (.ref l0), some (.int l1), none, some (.int l3), some (.int l4)]) (st' := [.int l4, .ref s0, .int s1]) bf177_35 bf177_37 rfl rfl).trans ?_
  exact bh bf177_37 bf177_38 rfl (fun _ _ => am_ge_rf w) rfl
theorem bk177_38 {w : am_Wd} {l0 : Nat} {l1 : Int32} {l3 : Int32} {l4 : Int32} {s0 : Int32} {s1 : Int32} : am_run 177 38 [some (.ref l0), some (.int l1), none, some (.int l3), some (.int l4)] [.int s0, .int s1] w = if ¬ s0 = l1 then am_run 177 46 [some (.ref l0), some (.int l1), none, some (.int l3), some (.int l4)] [.int s1] w else am_run 177 42 [some (.ref l0), some (.int l1), none, some (.int l3), some (.int l4)] [.int s1] w := by
  refine (bu (ls'' := [some (.ref l0), some (.int l1), none, some (.int l3), some (.int l4)]) (st' := [.int l1, .int s0, .int s1]) bf177_38 bf177_39 rfl rfl).trans ?_
  exact bic bf177_39 rfl bf177_46 bf177_42 rfl rfl rfl
theorem bk177_42 {w : am_Wd} {l0 : Nat} {l1 : Int32} {l3 : Int32} {l4 : Int32} {s0 : Int32} : am_run 177 42 [some (.ref l0), some (.int l1), none, some (.int l3), some (.int l4)] [.int s0] w = am_run 177 47 [some (.ref l0), some (.int l1), none, some (.int l3), some (.int l4)] [.int (nI 1), .int s0] w := by
  refine (bu (ls'' := [some (.ref l0), some (.int l1), none, some (.int l3), some (.int l4)]) (st' := [.int (nI 1), .int s0]) bf177_42 bf177_43 rfl rfl).trans ?_
  refine (bu (ls'' := [some (.ref l0), some (.int l1), none, some (.int l3), some (.int l4)]) (st' := [.int (nI 1), .int s0]) bf177_43 bf177_47 rfl rfl).trans ?_
  rfl
theorem bf178_0 : am_fetch (am_mth 178) 0 = some (.aload_n 0, 1, [], [3]) := by decide +kernel
theorem bf178_1 : am_fetch (am_mth 178) 1 = some (.aload_n 0, 1, [], [3]) := by decide +kernel
theorem bf178_2 : am_fetch (am_mth 178) 2 = some (.iload_n 1, 1, [], [3]) := by decide +kernel
theorem bf178_3 : am_fetch (am_mth 178) 3 = some (.invokevirtual 149, 3, [0, 99, 1, 11, 1387, 1389, 24, 48], [3]) := by decide +kernel
theorem bf178_6 : am_fetch (am_mth 178) 6 = some (.iconst 1, 1, [], [3]) := by decide +kernel
theorem bf178_7 : am_fetch (am_mth 178) 7 = some (.invokevirtual 83, 3, [0, 96, 2, 11, 1251, 1253, 18, 48], [3]) := by decide +kernel
theorem bf178_10 : am_fetch (am_mth 178) 10 = some (.ifCond .ne 71, 3, [], [3]) := by decide +kernel
theorem bf178_13 : am_fetch (am_mth 178) 13 = some (.aload_n 0, 1, [], [3]) := by decide +kernel
theorem bf178_14 : am_fetch (am_mth 178) 14 = some (.iload_n 2, 1, [], [3]) := by decide +kernel
theorem bf178_15 : am_fetch (am_mth 178) 15 = some (.iconst 1, 1, [], [3]) := by decide +kernel
theorem bf178_16 : am_fetch (am_mth 178) 16 = some (.sipush 500, 3, [], [3]) := by decide +kernel
theorem bf178_19 : am_fetch (am_mth 178) 19 = some (.invokestatic 42, 3, [0, 39, 3, 1245, 1246, 48], [3]) := by decide +kernel
theorem bf178_22 : am_fetch (am_mth 178) 22 = some (.ifCond .ne 7, 3, [], [3]) := by decide +kernel
theorem bf178_25 : am_fetch (am_mth 178) 25 = some (.iconst 1, 1, [], [3]) := by decide +kernel
theorem bf178_26 : am_fetch (am_mth 178) 26 = some (.goto 4, 3, [], [3]) := by decide +kernel
theorem bf178_29 : am_fetch (am_mth 178) 29 = some (.iconst 0, 1, [], [3]) := by decide +kernel
theorem bf178_30 : am_fetch (am_mth 178) 30 = some (.iconst 2, 1, [], [3]) := by decide +kernel
theorem bf178_31 : am_fetch (am_mth 178) 31 = some (.invokevirtual 38, 3, [0, 40, 2, 11, 1255, 1257, 19, 48], [3]) := by decide +kernel
theorem bf178_34 : am_fetch (am_mth 178) 34 = some (.ifCond .ne 47, 3, [], [3]) := by decide +kernel
theorem bf178_37 : am_fetch (am_mth 178) 37 = some (.aload_n 0, 1, [], [3]) := by decide +kernel
theorem bf178_38 : am_fetch (am_mth 178) 38 = some (.aload_n 0, 1, [], [3]) := by decide +kernel
theorem bf178_39 : am_fetch (am_mth 178) 39 = some (.getfield 31, 3, [0, 11, 11, 1208], [3]) := by decide +kernel
theorem bf178_42 : am_fetch (am_mth 178) 42 = some (.iload_n 1, 1, [], [3]) := by decide +kernel
theorem bf178_43 : am_fetch (am_mth 178) 43 = some (.invokevirtual 152, 3, [0, 150, 1, 3, 1391, 1392, 1393, 51], [3]) := by decide +kernel
theorem bf178_46 : am_fetch (am_mth 178) 46 = some (.checkcast 72, 3, [0, 10, 1295], [3]) := by decide +kernel
theorem bf178_49 : am_fetch (am_mth 178) 49 = some (.invokevirtual 160, 3, [0, 38, 0, 10, 1434, 1435, 1436, 66], [3]) := by decide +kernel
theorem bf178_52 : am_fetch (am_mth 178) 52 = some (.aload_n 0, 1, [], [3]) := by decide +kernel
theorem bf178_53 : am_fetch (am_mth 178) 53 = some (.getfield 31, 3, [0, 11, 11, 1208], [3]) := by decide +kernel
theorem bf178_56 : am_fetch (am_mth 178) 56 = some (.iload_n 1, 1, [], [3]) := by decide +kernel
theorem bf178_57 : am_fetch (am_mth 178) 57 = some (.invokevirtual 152, 3, [0, 150, 1, 3, 1391, 1392, 1393, 51], [3]) := by decide +kernel
theorem bf178_60 : am_fetch (am_mth 178) 60 = some (.checkcast 72, 3, [0, 10, 1295], [3]) := by decide +kernel
theorem bf178_63 : am_fetch (am_mth 178) 63 = some (.getfield 104, 3, [0, 10, 1, 1304], [3]) := by decide +kernel
theorem bf178_66 : am_fetch (am_mth 178) 66 = some (.if_icmp .eq 7, 3, [], [3]) := by decide +kernel
theorem bf178_69 : am_fetch (am_mth 178) 69 = some (.iconst 1, 1, [], [3]) := by decide +kernel
theorem bf178_70 : am_fetch (am_mth 178) 70 = some (.goto 4, 3, [], [3]) := by decide +kernel
theorem bf178_73 : am_fetch (am_mth 178) 73 = some (.iconst 0, 1, [], [3]) := by decide +kernel
theorem bf178_74 : am_fetch (am_mth 178) 74 = some (.iconst 3, 1, [], [3]) := by decide +kernel
theorem bf178_75 : am_fetch (am_mth 178) 75 = some (.invokevirtual 38, 3, [0, 40, 2, 11, 1255, 1257, 19, 48], [3]) := by decide +kernel
theorem bf178_78 : am_fetch (am_mth 178) 78 = some (.ifCond .eq 5, 3, [], [3]) := by decide +kernel
theorem bf178_81 : am_fetch (am_mth 178) 81 = some (.iconst 0, 1, [], [0, 1, 2, 3]) := by decide +kernel
theorem bf178_82 : am_fetch (am_mth 178) 82 = some (.ireturn, 1, [0], [0, 1, 2, 3]) := by decide +kernel
theorem bf178_83 : am_fetch (am_mth 178) 83 = some (.aload_n 0, 1, [], [3]) := by decide +kernel
theorem bf178_84 : am_fetch (am_mth 178) 84 = some (.getfield 31, 3, [0, 11, 11, 1208], [3]) := by decide +kernel
theorem bf178_87 : am_fetch (am_mth 178) 87 = some (.iload_n 1, 1, [], [3]) := by decide +kernel
theorem bf178_88 : am_fetch (am_mth 178) 88 = some (.invokevirtual 152, 3, [0, 150, 1, 3, 1391, 1392, 1393, 51], [3]) := by decide +kernel
theorem bf178_91 : am_fetch (am_mth 178) 91 = some (.checkcast 72, 3, [0, 10, 1295], [3]) := by decide +kernel
theorem bf178_94 : am_fetch (am_mth 178) 94 = some (.getfield 107, 3, [0, 10, 2, 1305], [3]) := by decide +kernel
theorem bf178_97 : am_fetch (am_mth 178) 97 = some (.istore_n 3, 1, [], [3]) := by decide +kernel
theorem bf178_98 : am_fetch (am_mth 178) 98 = some (.aload_n 0, 1, [], []) := by decide +kernel
theorem bf178_99 : am_fetch (am_mth 178) 99 = some (.getfield 31, 3, [0, 11, 11, 1208], [0]) := by decide +kernel
theorem bf178_102 : am_fetch (am_mth 178) 102 = some (.iload_n 1, 1, [], [0]) := by decide +kernel
theorem bf178_103 : am_fetch (am_mth 178) 103 = some (.invokevirtual 152, 3, [0, 150, 1, 3, 1391, 1392, 1393, 51], [0, 1]) := by decide +kernel
theorem bf178_106 : am_fetch (am_mth 178) 106 = some (.checkcast 72, 3, [0, 10, 1295], [0, 1]) := by decide +kernel
theorem bf178_109 : am_fetch (am_mth 178) 109 = some (.iload_n 2, 1, [], [0, 1]) := by decide +kernel
theorem bf178_110 : am_fetch (am_mth 178) 110 = some (.putfield 107, 3, [0, 10, 2, 1305], [0, 1, 2]) := by decide +kernel
theorem bf178_113 : am_fetch (am_mth 178) 113 = some (.iload_n 3, 1, [], [0, 1, 2]) := by decide +kernel
theorem bf178_114 : am_fetch (am_mth 178) 114 = some (.ireturn, 1, [0], [0, 1, 2, 3]) := by decide +kernel
theorem bk178_0 {w : am_Wd} {l0 : Nat} {l1 : Int32} {l2 : Int32} : am_run 178 0 [some (.ref l0), some (.int l1), some (.int l2), none] [] w = (am_kf w l0 11).bind fun _ => (am_x 99 [.ref l0, .int l1] w).bind fun r => bct r fun v w' => am_run 178 6 [some (.ref l0), some (.int l1), some (.int l2), none] (v.toList ++ [.ref l0]) w' := by
  refine (bu (ls'' := [some (.ref l0), some (.int l1), some (.int l2), none]) (st' := [.ref l0]) bf178_0 bf178_1 rfl rfl).trans ?_
  refine (bu (ls'' := [some (.ref l0), some (.int l1), some (.int l2), none]) (st' := [.ref l0, .ref l0]) bf178_1 bf178_2 rfl rfl).trans ?_
  refine (bu (ls'' := [some (.ref l0), some (.int l1), some (.int l2), none]) (st' := [.int l1, .ref l0, .ref l0]) bf178_2 bf178_3 rfl rfl).trans ?_
  exact bkV bf178_3 bf178_6 rfl (by decide +kernel) (Nat.le_of_ble_eq_true rfl) rfl (bhd rfl)
theorem bk178_6 {w : am_Wd} {l0 : Nat} {l1 : Int32} {l2 : Int32} {s0 : Int32} {s1 : Nat} : am_run 178 6 [some (.ref l0), some (.int l1), some (.int l2), none] [.int s0, .ref s1] w = (am_kf w s1 11).bind fun _ => (am_x 96 [.ref s1, .int s0, .int (nI 1)] w).bind fun r => bct r fun v w' => am_run 178 10 [some (.ref l0), some (.int l1), some (.int l2), none] (v.toList ++ []) w' := by
  refine (bu (ls'' := [some (.ref l0), some (.int l1), some (.int l2), none]) (st' := [.int (nI 1), .int s0, .ref s1]) bf178_6 bf178_7 rfl rfl).trans ?_
  exact bkV bf178_7 bf178_10 rfl (by decide +kernel) (Nat.le_of_ble_eq_true rfl) rfl (bhd rfl)
theorem bk178_10 {w : am_Wd} {l0 : Nat} {l1 : Int32} {l2 : Int32} {s0 : Int32} : am_run 178 10 [some (.ref l0), some (.int l1), some (.int l2), none] [.int s0] w = if ¬ s0 = nI 0 then am_run 178 81 [none, none, none, none] [] w else am_run 178 13 [some (.ref l0), some (.int l1), some (.int l2), none] [] w := by
  exact bifc bf178_10 rfl bf178_81 bf178_13 rfl rfl rfl
theorem bk178_81 {w : am_Wd}  : am_run 178 81 [none, none, none, none] [] w = some (.inl (some (.int (nI 0))), w) := by
  refine (bu (ls'' := [none, none, none, none]) (st' := [.int (nI 0)]) bf178_81 bf178_82 rfl rfl).trans ?_
  exact am_e2 bf178_82 rfl (am_ge_rf w)
theorem bk178_13 {w : am_Wd} {l0 : Nat} {l1 : Int32} {l2 : Int32} : am_run 178 13 [some (.ref l0), some (.int l1), some (.int l2), none] [] w = (am_x 39 [.int l2, .int (nI 1), .int (nI 500)] w).bind fun r => bct r fun v w' => am_run 178 22 [some (.ref l0), some (.int l1), some (.int l2), none] (v.toList ++ [.ref l0]) w' := by
  refine (bu (ls'' := [some (.ref l0), some (.int l1), some (.int l2), none]) (st' := [.ref l0]) bf178_13 bf178_14 rfl rfl).trans ?_
  refine (bu (ls'' := [some (.ref l0), some (.int l1), some (.int l2), none]) (st' := [.int l2, .ref l0]) bf178_14 bf178_15 rfl rfl).trans ?_
  refine (bu (ls'' := [some (.ref l0), some (.int l1), some (.int l2), none]) (st' := [.int (nI 1), .int l2, .ref l0]) bf178_15 bf178_16 rfl rfl).trans ?_
  refine (bu (ls'' := [some (.ref l0), some (.int l1), some (.int l2), none]) (st' := [.int (nI 500), .int (nI 1), .int l2, .ref l0]) bf178_16 bf178_19 rfl rfl).trans ?_
  exact bkS bf178_19 bf178_22 rfl (by decide +kernel) (Nat.le_of_ble_eq_true rfl) rfl (bhd rfl)
theorem bk178_22 {w : am_Wd} {l0 : Nat} {l1 : Int32} {l2 : Int32} {s0 : Int32} {s1 : Nat} : am_run 178 22 [some (.ref l0), some (.int l1), some (.int l2), none] [.int s0, .ref s1] w = if ¬ s0 = nI 0 then am_run 178 29 [some (.ref l0), some (.int l1), some (.int l2), none] [.ref s1] w else am_run 178 25 [some (.ref l0), some (.int l1), some (.int l2), none] [.ref s1] w := by
  exact bifc bf178_22 rfl bf178_29 bf178_25 rfl rfl rfl
theorem bk178_29 {w : am_Wd} {l0 : Nat} {l1 : Int32} {l2 : Int32} {s0 : Nat} : am_run 178 29 [some (.ref l0), some (.int l1), some (.int l2), none] [.ref s0] w = am_run 178 30 [some (.ref l0), some (.int l1), some (.int l2), none] [.int (nI 0), .ref s0] w := by
  refine (bu (ls'' := [some (.ref l0), some (.int l1), some (.int l2), none]) (st' := [.int (nI 0), .ref s0]) bf178_29 bf178_30 rfl rfl).trans ?_
  rfl
theorem bk178_25 {w : am_Wd} {l0 : Nat} {l1 : Int32} {l2 : Int32} {s0 : Nat} : am_run 178 25 [some (.ref l0), some (.int l1), some (.int l2), none] [.ref s0] w = am_run 178 30 [some (.ref l0), some (.int l1), some (.int l2), none] [.int (nI 1), .ref s0] w := by
  refine (bu (ls'' := [some (.ref l0), some (.int l1), some (.int l2), none]) (st' := [.int (nI 1), .ref s0]) bf178_25 bf178_26 rfl rfl).trans ?_
  refine (bu (ls'' := [some (.ref l0), some (.int l1), some (.int l2), none]) (st' := [.int (nI 1), .ref s0]) bf178_26 bf178_30 rfl rfl).trans ?_
  rfl
theorem bk178_30 {w : am_Wd} {l0 : Nat} {l1 : Int32} {l2 : Int32} {s0 : Int32} {s1 : Nat} : am_run 178 30 [some (.ref l0), some (.int l1), some (.int l2), none] [.int s0, .ref s1] w = (am_kf w s1 11).bind fun _ => (am_x 40 [.ref s1, .int s0, .int (nI 2)] w).bind fun r => bct r fun v w' => am_run 178 34 [some (.ref l0), some (.int l1), some (.int l2), none] (v.toList ++ []) w' := by
  refine (bu (ls'' := [some (.ref l0), some (.int l1), some (.int l2), none]) (st' := [.int (nI 2), .int s0, .ref s1]) bf178_30 bf178_31 rfl rfl).trans ?_
  exact bkV bf178_31 bf178_34 rfl (by decide +kernel) (Nat.le_of_ble_eq_true rfl) rfl (bhd rfl)
theorem bk178_34 {w : am_Wd} {l0 : Nat} {l1 : Int32} {l2 : Int32} {s0 : Int32} : am_run 178 34 [some (.ref l0), some (.int l1), some (.int l2), none] [.int s0] w = if ¬ s0 = nI 0 then am_run 178 81 [none, none, none, none] [] w else am_run 178 37 [some (.ref l0), some (.int l1), some (.int l2), none] [] w := by
  exact bifc bf178_34 rfl bf178_81 bf178_37 rfl rfl rfl
theorem bk178_37 {w : am_Wd} {l0 : Nat} {l1 : Int32} {l2 : Int32} : am_run 178 37 [some (.ref l0), some (.int l1), some (.int l2), none] [] w = (am_gf w l0 11 11).bind fun v => am_run 178 42 [some (.ref l0), some (.int l1), some (.int l2), none] (v :: [.ref l0]) w := by
  refine (bu (ls'' := [some (.ref l0), some (.int l1), some (.int l2), none]) (st' := [.ref l0]) bf178_37 bf178_38 rfl rfl).trans ?_
  refine (bu (ls'' := [some (.ref l0), some (.int l1), some (.int l2), none]) (st' := [.ref l0, .ref l0]) bf178_38 bf178_39 rfl rfl).trans ?_
  exact bh bf178_39 bf178_42 rfl (fun _ _ => am_ge_rf w) rfl
theorem bk178_42 {w : am_Wd} {l0 : Nat} {l1 : Int32} {l2 : Int32} {s0 : Nat} {s1 : Nat} : am_run 178 42 [some (.ref l0), some (.int l1), some (.int l2), none] [.ref s0, .ref s1] w = (am_kf w s0 3).bind fun _ => (am_x 150 [.ref s0, .int l1] w).bind fun r => bct r fun v w' => am_run 178 46 [some (.ref l0), some (.int l1), some (.int l2), none] (v.toList ++ [.ref s1]) w' := by
  refine (bu (ls'' := [some (.ref l0), some (.int l1), some (.int l2), none]) (st' := [.int l1, .ref s0, .ref s1]) bf178_42 bf178_43 rfl rfl).trans ?_
  exact bkV bf178_43 bf178_46 rfl (by decide +kernel) (Nat.le_of_ble_eq_true rfl) rfl (bhd rfl)
theorem bk178_46 {w : am_Wd} {l0 : Nat} {l1 : Int32} {l2 : Int32} {s0 : Nat} {s1 : Nat} : am_run 178 46 [some (.ref l0), some (.int l1), some (.int l2), none] [.ref s0, .ref s1] w = (am_kf w s0 10).bind fun _ => am_run 178 49 [some (.ref l0), some (.int l1), some (.int l2), none] [.ref s0, .ref s1] w := by
  exact bh bf178_46 bf178_49 rfl (fun _ _ => am_ge_rf w) rfl
theorem bk178_49 {w : am_Wd} {l0 : Nat} {l1 : Int32} {l2 : Int32} {s0 : Nat} {s1 : Nat} : am_run 178 49 [some (.ref l0), some (.int l1), some (.int l2), none] [.ref s0, .ref s1] w = (am_kf w s0 10).bind fun _ => (am_x 38 [.ref s0] w).bind fun r => bct r fun v w' => am_run 178 52 [some (.ref l0), some (.int l1), some (.int l2), none] (v.toList ++ [.ref s1]) w' := by
  exact bkV bf178_49 bf178_52 rfl (by decide +kernel) (Nat.le_of_ble_eq_true rfl) rfl (bhd rfl)
theorem bk178_52 {w : am_Wd} {l0 : Nat} {l1 : Int32} {l2 : Int32} {s0 : Int32} {s1 : Nat} : am_run 178 52 [some (.ref l0), some (.int l1), some (.int l2), none] [.int s0, .ref s1] w = (am_gf w l0 11 11).bind fun v => am_run 178 56 [some (.ref l0), some (.int l1), some (.int l2), none] (v :: [.int s0, .ref s1]) w := by
  refine (bu (ls'' := [some (.ref l0), some (.int l1), some (.int l2), none]) (st' := [.ref l0, .int s0, .ref s1]) bf178_52 bf178_53 rfl rfl).trans ?_
  exact bh bf178_53 bf178_56 rfl (fun _ _ => am_ge_rf w) rfl
theorem bk178_56 {w : am_Wd} {l0 : Nat} {l1 : Int32} {l2 : Int32} {s0 : Nat} {s1 : Int32} {s2 : Nat} : am_run 178 56 [some (.ref l0), some (.int l1), some (.int l2), none] [.ref s0, .int s1, .ref s2] w = (am_kf w s0 3).bind fun _ => (am_x 150 [.ref s0, .int l1] w).bind fun r => bct r fun v w' => am_run 178 60 [some (.ref l0), some (.int l1), some (.int l2), none] (v.toList ++ [.int s1, .ref s2]) w' := by
  refine (bu (ls'' := [some (.ref l0), some (.int l1), some (.int l2), none]) (st' := [.int l1, .ref s0, .int s1, .ref s2]) bf178_56 bf178_57 rfl rfl).trans ?_
  exact bkV bf178_57 bf178_60 rfl (by decide +kernel) (Nat.le_of_ble_eq_true rfl) rfl (bhd rfl)
theorem bk178_60 {w : am_Wd} {l0 : Nat} {l1 : Int32} {l2 : Int32} {s0 : Nat} {s1 : Int32} {s2 : Nat} : am_run 178 60 [some (.ref l0), some (.int l1), some (.int l2), none] [.ref s0, .int s1, .ref s2] w = (am_kf w s0 10).bind fun _ => am_run 178 63 [some (.ref l0), some (.int l1), some (.int l2), none] [.ref s0, .int s1, .ref s2] w := by
  exact bh bf178_60 bf178_63 rfl (fun _ _ => am_ge_rf w) rfl
theorem bk178_63 {w : am_Wd} {l0 : Nat} {l1 : Int32} {l2 : Int32} {s0 : Nat} {s1 : Int32} {s2 : Nat} : am_run 178 63 [some (.ref l0), some (.int l1), some (.int l2), none] [.ref s0, .int s1, .ref s2] w = (am_gf w s0 10 1).bind fun v => am_run 178 66 [some (.ref l0), some (.int l1), some (.int l2), none] (v :: [.int s1, .ref s2]) w := by
  exact bh bf178_63 bf178_66 rfl (fun _ _ => am_ge_rf w) rfl
theorem bk178_66 {w : am_Wd} {l0 : Nat} {l1 : Int32} {l2 : Int32} {s0 : Int32} {s1 : Int32} {s2 : Nat} : am_run 178 66 [some (.ref l0), some (.int l1), some (.int l2), none] [.int s0, .int s1, .ref s2] w = if s1 = s0 then am_run 178 73 [some (.ref l0), some (.int l1), some (.int l2), none] [.ref s2] w else am_run 178 69 [some (.ref l0), some (.int l1), some (.int l2), none] [.ref s2] w := by
  exact bic bf178_66 rfl bf178_73 bf178_69 rfl rfl rfl
theorem bk178_73 {w : am_Wd} {l0 : Nat} {l1 : Int32} {l2 : Int32} {s0 : Nat} : am_run 178 73 [some (.ref l0), some (.int l1), some (.int l2), none] [.ref s0] w = am_run 178 74 [some (.ref l0), some (.int l1), some (.int l2), none] [.int (nI 0), .ref s0] w := by
  refine (bu (ls'' := [some (.ref l0), some (.int l1), some (.int l2), none]) (st' := [.int (nI 0), .ref s0]) bf178_73 bf178_74 rfl rfl).trans ?_
  rfl
theorem bk178_69 {w : am_Wd} {l0 : Nat} {l1 : Int32} {l2 : Int32} {s0 : Nat} : am_run 178 69 [some (.ref l0), some (.int l1), some (.int l2), none] [.ref s0] w = am_run 178 74 [some (.ref l0), some (.int l1), some (.int l2), none] [.int (nI 1), .ref s0] w := by
  refine (bu (ls'' := [some (.ref l0), some (.int l1), some (.int l2), none]) (st' := [.int (nI 1), .ref s0]) bf178_69 bf178_70 rfl rfl).trans ?_
  refine (bu (ls'' := [some (.ref l0), some (.int l1), some (.int l2), none]) (st' := [.int (nI 1), .ref s0]) bf178_70 bf178_74 rfl rfl).trans ?_
  rfl
theorem bk178_74 {w : am_Wd} {l0 : Nat} {l1 : Int32} {l2 : Int32} {s0 : Int32} {s1 : Nat} : am_run 178 74 [some (.ref l0), some (.int l1), some (.int l2), none] [.int s0, .ref s1] w = (am_kf w s1 11).bind fun _ => (am_x 40 [.ref s1, .int s0, .int (nI 3)] w).bind fun r => bct r fun v w' => am_run 178 78 [some (.ref l0), some (.int l1), some (.int l2), none] (v.toList ++ []) w' := by
  refine (bu (ls'' := [some (.ref l0), some (.int l1), some (.int l2), none]) (st' := [.int (nI 3), .int s0, .ref s1]) bf178_74 bf178_75 rfl rfl).trans ?_
  exact bkV bf178_75 bf178_78 rfl (by decide +kernel) (Nat.le_of_ble_eq_true rfl) rfl (bhd rfl)
theorem bk178_78 {w : am_Wd} {l0 : Nat} {l1 : Int32} {l2 : Int32} {s0 : Int32} : am_run 178 78 [some (.ref l0), some (.int l1), some (.int l2), none] [.int s0] w = if s0 = nI 0 then am_run 178 83 [some (.ref l0), some (.int l1), some (.int l2), none] [] w else am_run 178 81 [none, none, none, none] [] w := by
  exact bifc bf178_78 rfl bf178_83 bf178_81 rfl rfl rfl
theorem bk178_83 {w : am_Wd} {l0 : Nat} {l1 : Int32} {l2 : Int32} : am_run 178 83 [some (.ref l0), some (.int l1), some (.int l2), none] [] w = (am_gf w l0 11 11).bind fun v => am_run 178 87 [some (.ref l0), some (.int l1), some (.int l2), none] (v :: []) w := by
  refine (bu (ls'' := [some (.ref l0), some (.int l1), some (.int l2), none]) (st' := [.ref l0]) bf178_83 bf178_84 rfl rfl).trans ?_
  exact bh bf178_84 bf178_87 rfl (fun _ _ => am_ge_rf w) rfl
theorem bk178_87 {w : am_Wd} {l0 : Nat} {l1 : Int32} {l2 : Int32} {s0 : Nat} : am_run 178 87 [some (.ref l0), some (.int l1), some (.int l2), none] [.ref s0] w = (am_kf w s0 3).bind fun _ => (am_x 150 [.ref s0, .int l1] w).bind fun r => bct r fun v w' => am_run 178 91 [some (.ref l0), some (.int l1), some (.int l2), none] (v.toList ++ []) w' := by
  refine (bu (ls'' := [some (.ref l0), some (.int l1), some (.int l2), none]) (st' := [.int l1, .ref s0]) bf178_87 bf178_88 rfl rfl).trans ?_
  exact bkV bf178_88 bf178_91 rfl (by decide +kernel) (Nat.le_of_ble_eq_true rfl) rfl (bhd rfl)
theorem bk178_91 {w : am_Wd} {l0 : Nat} {l1 : Int32} {l2 : Int32} {s0 : Nat} : am_run 178 91 [some (.ref l0), some (.int l1), some (.int l2), none] [.ref s0] w = (am_kf w s0 10).bind fun _ => am_run 178 94 [some (.ref l0), some (.int l1), some (.int l2), none] [.ref s0] w := by
  exact bh bf178_91 bf178_94 rfl (fun _ _ => am_ge_rf w) rfl
theorem bk178_94 {w : am_Wd} {l0 : Nat} {l1 : Int32} {l2 : Int32} {s0 : Nat} : am_run 178 94 [some (.ref l0), some (.int l1), some (.int l2), none] [.ref s0] w = (am_gf w s0 10 2).bind fun v => am_run 178 97 [some (.ref l0), some (.int l1), some (.int l2), none] (v :: []) w := by
  exact bh bf178_94 bf178_97 rfl (fun _ _ => am_ge_rf w) rfl
theorem bk178_97 {w : am_Wd} {l0 : Nat} {l1 : Int32} {l2 : Int32} {s0 : Int32} : am_run 178 97 [some (.ref l0), some (.int l1), some (.int l2), none] [.int s0] w = (am_gf w l0 11 11).bind fun v => am_run 178 102 [none, some (.int l1), some (.int l2), some (.int s0)] (v :: []) w := by
  refine (bu (ls'' := [some (.ref l0), some (.int l1), some (.int l2), some (.int s0)]) (st' := []) bf178_97 bf178_98 rfl rfl).trans ?_
  refine (bu (ls'' := [none, some (.int l1), some (.int l2), some (.int s0)]) (st' := [.ref l0]) bf178_98 bf178_99 rfl rfl).trans ?_
  exact bh bf178_99 bf178_102 rfl (fun _ _ => am_ge_rf w) rfl
theorem bk178_102 {w : am_Wd} {l1 : Int32} {l2 : Int32} {l3 : Int32} {s0 : Nat} : am_run 178 102 [none, some (.int l1), some (.int l2), some (.int l3)] [.ref s0] w = (am_kf w s0 3).bind fun _ => (am_x 150 [.ref s0, .int l1] w).bind fun r => bct r fun v w' => am_run 178 106 [none, none, some (.int l2), some (.int l3)] (v.toList ++ []) w' := by
  refine (bu (ls'' := [none, none, some (.int l2), some (.int l3)]) (st' := [.int l1, .ref s0]) bf178_102 bf178_103 rfl rfl).trans ?_
  exact bkV bf178_103 bf178_106 rfl (by decide +kernel) (Nat.le_of_ble_eq_true rfl) rfl (bhd rfl)
theorem bk178_106 {w : am_Wd} {l2 : Int32} {l3 : Int32} {s0 : Nat} : am_run 178 106 [none, none, some (.int l2), some (.int l3)] [.ref s0] w = (am_kf w s0 10).bind fun _ => am_run 178 109 [none, none, some (.int l2), some (.int l3)] [.ref s0] w := by
  exact bh bf178_106 bf178_109 rfl (fun _ _ => am_ge_rf w) rfl
theorem bk178_109 {w : am_Wd} {l2 : Int32} {l3 : Int32} {s0 : Nat} : am_run 178 109 [none, none, some (.int l2), some (.int l3)] [.ref s0] w = (am_pf w s0 10 2 (.int l2)).bind fun w' => am_run 178 113 [none, none, none, some (.int l3)] [] w' := by
  refine (bu (ls'' := [none, none, none, some (.int l3)]) (st' := [.int l2, .ref s0]) bf178_109 bf178_110 rfl rfl).trans ?_
  exact bh bf178_110 bf178_113 rfl (bge_pf) rfl
theorem bk178_113 {w : am_Wd} {l3 : Int32} : am_run 178 113 [none, none, none, some (.int l3)] [] w = some (.inl (some (.int l3)), w) := by
  refine (bu (ls'' := [none, none, none, none]) (st' := [.int l3]) bf178_113 bf178_114 rfl rfl).trans ?_
  exact am_e2 bf178_114 rfl (am_ge_rf w)
theorem bf179_0 : am_fetch (am_mth 179) 0 = some (.aload_n 0, 1, [], [2, 3]) := by decide +kernel
theorem bf179_1 : am_fetch (am_mth 179) 1 = some (.aload_n 0, 1, [], [2, 3]) := by decide +kernel
theorem bf179_2 : am_fetch (am_mth 179) 2 = some (.iload_n 1, 1, [], [2, 3]) := by decide +kernel
theorem bf179_3 : am_fetch (am_mth 179) 3 = some (.invokevirtual 149, 3, [0, 99, 1, 11, 1387, 1389, 24, 48], [2, 3]) := by decide +kernel
theorem bf179_6 : am_fetch (am_mth 179) 6 = some (.iconst 1, 1, [], [2, 3]) := by decide +kernel
theorem bf179_7 : am_fetch (am_mth 179) 7 = some (.invokevirtual 83, 3, [0, 96, 2, 11, 1251, 1253, 18, 48], [2, 3]) := by decide +kernel
theorem bf179_10 : am_fetch (am_mth 179) 10 = some (.ifCond .eq 5, 3, [], [2, 3]) := by decide +kernel
theorem bf179_13 : am_fetch (am_mth 179) 13 = some (.iconst 0, 1, [], [0, 1, 2, 3]) := by decide +kernel
theorem bf179_14 : am_fetch (am_mth 179) 14 = some (.ireturn, 1, [0], [0, 1, 2, 3]) := by decide +kernel
theorem bf179_15 : am_fetch (am_mth 179) 15 = some (.aload_n 0, 1, [], [2, 3]) := by decide +kernel
theorem bf179_16 : am_fetch (am_mth 179) 16 = some (.getfield 31, 3, [0, 11, 11, 1208], [0, 2, 3]) := by decide +kernel
theorem bf179_19 : am_fetch (am_mth 179) 19 = some (.iload_n 1, 1, [], [0, 2, 3]) := by decide +kernel
theorem bf179_20 : am_fetch (am_mth 179) 20 = some (.invokevirtual 152, 3, [0, 150, 1, 3, 1391, 1392, 1393, 51], [0, 1, 2, 3]) := by decide +kernel
theorem bf179_23 : am_fetch (am_mth 179) 23 = some (.checkcast 72, 3, [0, 10, 1295], [0, 1, 2, 3]) := by decide +kernel
theorem bf179_26 : am_fetch (am_mth 179) 26 = some (.astore_n 2, 1, [], [0, 1, 2, 3]) := by decide +kernel
theorem bf179_27 : am_fetch (am_mth 179) 27 = some (.aload_n 2, 1, [], [0, 1, 3]) := by decide +kernel
theorem bf179_28 : am_fetch (am_mth 179) 28 = some (.invokevirtual 143, 3, [0, 37, 0, 10, 1459, 1408, 1409, 66], [0, 1, 3]) := by decide +kernel
theorem bf179_31 : am_fetch (am_mth 179) 31 = some (.istore_n 3, 1, [], [0, 1, 3]) := by decide +kernel
theorem bf179_32 : am_fetch (am_mth 179) 32 = some (.aload_n 2, 1, [], [0, 1]) := by decide +kernel
theorem bf179_33 : am_fetch (am_mth 179) 33 = some (.sipush 144, 3, [], [0, 1]) := by decide +kernel
theorem bf179_36 : am_fetch (am_mth 179) 36 = some (.newarray .boolean, 2, [2, 1196], [0, 1]) := by decide +kernel
theorem bf179_38 : am_fetch (am_mth 179) 38 = some (.putfield 97, 3, [0, 10, 3, 1307], [0, 1]) := by decide +kernel
theorem bf179_41 : am_fetch (am_mth 179) 41 = some (.aload_n 2, 1, [], [0, 1]) := by decide +kernel
theorem bf179_42 : am_fetch (am_mth 179) 42 = some (.getfield 97, 3, [0, 10, 3, 1307], [0, 1]) := by decide +kernel
theorem bf179_45 : am_fetch (am_mth 179) 45 = some (.aload_n 2, 1, [], [0, 1]) := by decide +kernel
theorem bf179_46 : am_fetch (am_mth 179) 46 = some (.getfield 101, 3, [0, 10, 0, 1303], [0, 1, 2]) := by decide +kernel
theorem bf179_49 : am_fetch (am_mth 179) 49 = some (.iconst 1, 1, [], [0, 1, 2]) := by decide +kernel
theorem bf179_50 : am_fetch (am_mth 179) 50 = some (.bastore, 1, [2], [0, 1, 2]) := by decide +kernel
theorem bf179_51 : am_fetch (am_mth 179) 51 = some (.iload_n 3, 1, [], [0, 1, 2]) := by decide +kernel
theorem bf179_52 : am_fetch (am_mth 179) 52 = some (.ireturn, 1, [0], [0, 1, 2, 3]) := by decide +kernel
theorem bk179_0 {w : am_Wd} {l0 : Nat} {l1 : Int32} : am_run 179 0 [some (.ref l0), some (.int l1), none, none] [] w = (am_kf w l0 11).bind fun _ => (am_x 99 [.ref l0, .int l1] w).bind fun r => bct r fun v w' => am_run 179 6 [some (.ref l0), some (.int l1), none, none] (v.toList ++ [.ref l0]) w' := by
  refine (bu (ls'' := [some (.ref l0), some (.int l1), none, none]) (st' := [.ref l0]) bf179_0 bf179_1 rfl rfl).trans ?_
  refine (bu (ls'' := [some (.ref l0), some (.int l1), none, none]) (st' := [.ref l0, .ref l0]) bf179_1 bf179_2 rfl rfl).trans ?_
  refine (bu (ls'' := [some (.ref l0), some (.int l1), none, none]) (st' := [.int l1, .ref l0, .ref l0]) bf179_2 bf179_3 rfl rfl).trans ?_
  exact bkV bf179_3 bf179_6 rfl (by decide +kernel) (Nat.le_of_ble_eq_true rfl) rfl (bhd rfl)
theorem bk179_6 {w : am_Wd} {l0 : Nat} {l1 : Int32} {s0 : Int32} {s1 : Nat} : am_run 179 6 [some (.ref l0), some (.int l1), none, none] [.int s0, .ref s1] w = (am_kf w s1 11).bind fun _ => (am_x 96 [.ref s1, .int s0, .int (nI 1)] w).bind fun r => bct r fun v w' => am_run 179 10 [some (.ref l0), some (.int l1), none, none] (v.toList ++ []) w' := by
  refine (bu (ls'' := [some (.ref l0), some (.int l1), none, none]) (st' := [.int (nI 1), .int s0, .ref s1]) bf179_6 bf179_7 rfl rfl).trans ?_
  exact bkV bf179_7 bf179_10 rfl (by decide +kernel) (Nat.le_of_ble_eq_true rfl) rfl (bhd rfl)
theorem bk179_10 {w : am_Wd} {l0 : Nat} {l1 : Int32} {s0 : Int32} : am_run 179 10 [some (.ref l0), some (.int l1), none, none] [.int s0] w = if s0 = nI 0 then am_run 179 15 [some (.ref l0), some (.int l1), none, none] [] w else am_run 179 13 [none, none, none, none] [] w := by
  exact bifc bf179_10 rfl bf179_15 bf179_13 rfl rfl rfl
theorem bk179_15 {w : am_Wd} {l0 : Nat} {l1 : Int32} : am_run 179 15 [some (.ref l0), some (.int l1), none, none] [] w = (am_gf w l0 11 11).bind fun v => am_run 179 19 [none, some (.int l1), none, none] (v :: []) w := by
  refine (bu (ls'' := [none, some (.int l1), none, none]) (st' := [.ref l0]) bf179_15 bf179_16 rfl rfl).trans ?_
  exact bh bf179_16 bf179_19 rfl (fun _ _ => am_ge_rf w) rfl
theorem bk179_13 {w : am_Wd}  : am_run 179 13 [none, none, none, none] [] w = some (.inl (some (.int (nI 0))), w) := by
  refine (bu (ls'' := [none, none, none, none]) (st' := [.int (nI 0)]) bf179_13 bf179_14 rfl rfl).trans ?_
  exact am_e2 bf179_14 rfl (am_ge_rf w)
theorem bk179_19 {w : am_Wd} {l1 : Int32} {s0 : Nat} : am_run 179 19 [none, some (.int l1), none, none] [.ref s0] w = (am_kf w s0 3).bind fun _ => (am_x 150 [.ref s0, .int l1] w).bind fun r => bct r fun v w' => am_run 179 23 [none, none, none, none] (v.toList ++ []) w' := by
  refine (bu (ls'' := [none, none, none, none]) (st' := [.int l1, .ref s0]) bf179_19 bf179_20 rfl rfl).trans ?_
  exact bkV bf179_20 bf179_23 rfl (by decide +kernel) (Nat.le_of_ble_eq_true rfl) rfl (bhd rfl)
theorem bk179_23 {w : am_Wd} {s0 : Nat} : am_run 179 23 [none, none, none, none] [.ref s0] w = (am_kf w s0 10).bind fun _ => am_run 179 26 [none, none, none, none] [.ref s0] w := by
  exact bh bf179_23 bf179_26 rfl (fun _ _ => am_ge_rf w) rfl
theorem bk179_26 {w : am_Wd} {s0 : Nat} : am_run 179 26 [none, none, none, none] [.ref s0] w = (am_kf w s0 10).bind fun _ => (am_x 37 [.ref s0] w).bind fun r => bct r fun v w' => am_run 179 31 [none, none, some (.ref s0), none] (v.toList ++ []) w' := by
  refine (bu (ls'' := [none, none, some (.ref s0), none]) (st' := []) bf179_26 bf179_27 rfl rfl).trans ?_
  refine (bu (ls'' := [none, none, some (.ref s0), none]) (st' := [.ref s0]) bf179_27 bf179_28 rfl rfl).trans ?_
  exact bkV bf179_28 bf179_31 rfl (by decide +kernel) (Nat.le_of_ble_eq_true rfl) rfl (bhd rfl)
theorem bk179_31 {w : am_Wd} {l2 : Nat} {s0 : Int32} : am_run 179 31 [none, none, some (.ref l2), none] [.int s0] w = (am_na w 2 (nI 144)).bind fun w' => am_run 179 38 [none, none, some (.ref l2), some (.int s0)] (.ref w.2.1 :: [.ref l2]) w' := by
  refine (bu (ls'' := [none, none, some (.ref l2), some (.int s0)]) (st' := []) bf179_31 bf179_32 rfl rfl).trans ?_
  refine (bu (ls'' := [none, none, some (.ref l2), some (.int s0)]) (st' := [.ref l2]) bf179_32 bf179_33 rfl rfl).trans ?_
  refine (bu (ls'' := [none, none, some (.ref l2), some (.int s0)]) (st' := [.int (nI 144), .ref l2]) bf179_33 bf179_36 rfl rfl).trans ?_
  exact bh bf179_36 bf179_38 rfl (bge_na) rfl
theorem bk179_38 {w : am_Wd} {l2 : Nat} {l3 : Int32} {s0 : Nat} {s1 : Nat} : am_run 179 38 [none, none, some (.ref l2), some (.int l3)] [.ref s0, .ref s1] w = (am_pf w s1 10 3 (.ref s0)).bind fun w' => am_run 179 41 [none, none, some (.ref l2), some (.int l3)] [] w' := by
  exact bh bf179_38 bf179_41 rfl (bge_pf) rfl
theorem bk179_41 {w : am_Wd} {l2 : Nat} {l3 : Int32} : am_run 179 41 [none, none, some (.ref l2), some (.int l3)] [] w = (am_gf w l2 10 3).bind fun v => am_run 179 45 [none, none, some (.ref l2), some (.int l3)] (v :: []) w := by
  refine (bu (ls'' := [none, none, some (.ref l2), some (.int l3)]) (st' := [.ref l2]) bf179_41 bf179_42 rfl rfl).trans ?_
  exact bh bf179_42 bf179_45 rfl (fun _ _ => am_ge_rf w) rfl
theorem bk179_45 {w : am_Wd} {l2 : Nat} {l3 : Int32} {s0 : Nat} : am_run 179 45 [none, none, some (.ref l2), some (.int l3)] [.ref s0] w = (am_gf w l2 10 0).bind fun v => am_run 179 49 [none, none, none, some (.int l3)] (v :: [.ref s0]) w := by
  refine (bu (ls'' := [none, none, none, some (.int l3)]) (st' := [.ref l2, .ref s0]) bf179_45 bf179_46 rfl rfl).trans ?_
  exact bh bf179_46 bf179_49 rfl (fun _ _ => am_ge_rf w) rfl
theorem bk179_49 {w : am_Wd} {l3 : Int32} {s0 : Int32} {s1 : Nat} : am_run 179 49 [none, none, none, some (.int l3)] [.int s0, .ref s1] w = (am_wi 2 w s1 s0 (vp_nar .boolean (nI 1))).bind fun w' => am_run 179 51 [none, none, none, some (.int l3)] [] w' := by
  refine (bu (ls'' := [none, none, none, some (.int l3)]) (st' := [.int (nI 1), .int s0, .ref s1]) bf179_49 bf179_50 rfl rfl).trans ?_
  exact bh bf179_50 bf179_51 rfl (bge_wi) rfl
theorem bk179_51 {w : am_Wd} {l3 : Int32} : am_run 179 51 [none, none, none, some (.int l3)] [] w = some (.inl (some (.int l3)), w) := by
  refine (bu (ls'' := [none, none, none, none]) (st' := [.int l3]) bf179_51 bf179_52 rfl rfl).trans ?_
  exact am_e2 bf179_52 rfl (am_ge_rf w)
theorem bf180_0 : am_fetch (am_mth 180) 0 = some (.aload_n 0, 1, [], [3, 4, 5, 6, 7, 8, 9]) := by decide +kernel
theorem bf180_1 : am_fetch (am_mth 180) 1 = some (.aload_n 0, 1, [], [3, 4, 5, 6, 7, 8, 9]) := by decide +kernel
theorem bf180_2 : am_fetch (am_mth 180) 2 = some (.iload_n 1, 1, [], [3, 4, 5, 6, 7, 8, 9]) := by decide +kernel
theorem bf180_3 : am_fetch (am_mth 180) 3 = some (.invokevirtual 149, 3, [0, 99, 1, 11, 1387, 1389, 24, 48], [3, 4, 5, 6, 7, 8, 9]) := by decide +kernel
theorem bf180_6 : am_fetch (am_mth 180) 6 = some (.ifCond .ne 11, 3, [], [3, 4, 5, 6, 7, 8, 9]) := by decide +kernel
theorem bf180_9 : am_fetch (am_mth 180) 9 = some (.aload_n 0, 1, [], [3, 4, 5, 6, 7, 8, 9]) := by decide +kernel
theorem bf180_10 : am_fetch (am_mth 180) 10 = some (.iload_n 2, 1, [], [3, 4, 5, 6, 7, 8, 9]) := by decide +kernel
theorem bf180_11 : am_fetch (am_mth 180) 11 = some (.invokevirtual 149, 3, [0, 99, 1, 11, 1387, 1389, 24, 48], [3, 4, 5, 6, 7, 8, 9]) := by decide +kernel
theorem bf180_14 : am_fetch (am_mth 180) 14 = some (.ifCond .eq 7, 3, [], [3, 4, 5, 6, 7, 8, 9]) := by decide +kernel
theorem bf180_17 : am_fetch (am_mth 180) 17 = some (.iconst 1, 1, [], [3, 4, 5, 6, 7, 8, 9]) := by decide +kernel
theorem bf180_18 : am_fetch (am_mth 180) 18 = some (.goto 4, 3, [], [3, 4, 5, 6, 7, 8, 9]) := by decide +kernel
theorem bf180_21 : am_fetch (am_mth 180) 21 = some (.iconst 0, 1, [], [3, 4, 5, 6, 7, 8, 9]) := by decide +kernel
theorem bf180_22 : am_fetch (am_mth 180) 22 = some (.iconst 1, 1, [], [3, 4, 5, 6, 7, 8, 9]) := by decide +kernel
theorem bf180_23 : am_fetch (am_mth 180) 23 = some (.invokevirtual 83, 3, [0, 96, 2, 11, 1251, 1253, 18, 48], [3, 4, 5, 6, 7, 8, 9]) := by decide +kernel
theorem bf180_26 : am_fetch (am_mth 180) 26 = some (.ifCond .ne 21, 3, [], [3, 4, 5, 6, 7, 8, 9]) := by decide +kernel
theorem bf180_29 : am_fetch (am_mth 180) 29 = some (.aload_n 0, 1, [], [3, 4, 5, 6, 7, 8, 9]) := by decide +kernel
theorem bf180_30 : am_fetch (am_mth 180) 30 = some (.iload_n 1, 1, [], [3, 4, 5, 6, 7, 8, 9]) := by decide +kernel
theorem bf180_31 : am_fetch (am_mth 180) 31 = some (.iload_n 2, 1, [], [3, 4, 5, 6, 7, 8, 9]) := by decide +kernel
theorem bf180_32 : am_fetch (am_mth 180) 32 = some (.if_icmp .ne 7, 3, [], [3, 4, 5, 6, 7, 8, 9]) := by decide +kernel
theorem bf180_35 : am_fetch (am_mth 180) 35 = some (.iconst 1, 1, [], [3, 4, 5, 6, 7, 8, 9]) := by decide +kernel
theorem bf180_36 : am_fetch (am_mth 180) 36 = some (.goto 4, 3, [], [3, 4, 5, 6, 7, 8, 9]) := by decide +kernel
theorem bf180_39 : am_fetch (am_mth 180) 39 = some (.iconst 0, 1, [], [3, 4, 5, 6, 7, 8, 9]) := by decide +kernel
theorem bf180_40 : am_fetch (am_mth 180) 40 = some (.iconst 2, 1, [], [3, 4, 5, 6, 7, 8, 9]) := by decide +kernel
theorem bf180_41 : am_fetch (am_mth 180) 41 = some (.invokevirtual 38, 3, [0, 40, 2, 11, 1255, 1257, 19, 48], [3, 4, 5, 6, 7, 8, 9]) := by decide +kernel
theorem bf180_44 : am_fetch (am_mth 180) 44 = some (.ifCond .eq 5, 3, [], [3, 4, 5, 6, 7, 8, 9]) := by decide +kernel
theorem bf180_47 : am_fetch (am_mth 180) 47 = some (.iconst 0, 1, [], [0, 1, 2, 3, 4, 5, 6, 7, 8, 9]) := by decide +kernel
theorem bf180_48 : am_fetch (am_mth 180) 48 = some (.ireturn, 1, [0], [0, 1, 2, 3, 4, 5, 6, 7, 8, 9]) := by decide +kernel
theorem bf180_49 : am_fetch (am_mth 180) 49 = some (.aload_n 0, 1, [], [3, 4, 5, 6, 7, 8, 9]) := by decide +kernel
theorem bf180_50 : am_fetch (am_mth 180) 50 = some (.getfield 31, 3, [0, 11, 11, 1208], [3, 4, 5, 6, 7, 8, 9]) := by decide +kernel
theorem bf180_53 : am_fetch (am_mth 180) 53 = some (.iload_n 1, 1, [], [3, 4, 5, 6, 7, 8, 9]) := by decide +kernel
theorem bf180_54 : am_fetch (am_mth 180) 54 = some (.invokevirtual 152, 3, [0, 150, 1, 3, 1391, 1392, 1393, 51], [1, 3, 4, 5, 6, 7, 8, 9]) := by decide +kernel
theorem bf180_57 : am_fetch (am_mth 180) 57 = some (.checkcast 72, 3, [0, 10, 1295], [1, 3, 4, 5, 6, 7, 8, 9]) := by decide +kernel
theorem bf180_60 : am_fetch (am_mth 180) 60 = some (.astore_n 3, 1, [], [1, 3, 4, 5, 6, 7, 8, 9]) := by decide +kernel
theorem bf180_61 : am_fetch (am_mth 180) 61 = some (.aload_n 0, 1, [], [1, 4, 5, 6, 7, 8, 9]) := by decide +kernel
theorem bf180_62 : am_fetch (am_mth 180) 62 = some (.getfield 31, 3, [0, 11, 11, 1208], [1, 4, 5, 6, 7, 8, 9]) := by decide +kernel
theorem bf180_65 : am_fetch (am_mth 180) 65 = some (.iload_n 2, 1, [], [1, 4, 5, 6, 7, 8, 9]) := by decide +kernel
theorem bf180_66 : am_fetch (am_mth 180) 66 = some (.invokevirtual 152, 3, [0, 150, 1, 3, 1391, 1392, 1393, 51], [1, 2, 4, 5, 6, 7, 8, 9]) := by decide +kernel
theorem bf180_69 : am_fetch (am_mth 180) 69 = some (.checkcast 72, 3, [0, 10, 1295], [1, 2, 4, 5, 6, 7, 8, 9]) := by decide +kernel
theorem bf180_72 : am_fetch (am_mth 180) 72 = some (.astore 4, 2, [], [1, 2, 4, 5, 6, 7, 8, 9]) := by decide +kernel
theorem bf180_74 : am_fetch (am_mth 180) 74 = some (.aload_n 0, 1, [], [1, 2, 5, 6, 7, 8, 9]) := by decide +kernel
theorem bf180_75 : am_fetch (am_mth 180) 75 = some (.aload_n 3, 1, [], [1, 2, 5, 6, 7, 8, 9]) := by decide +kernel
theorem bf180_76 : am_fetch (am_mth 180) 76 = some (.invokevirtual 122, 3, [0, 95, 0, 10, 1403, 1404, 1405, 66], [1, 2, 5, 6, 7, 8, 9]) := by decide +kernel
theorem bf180_79 : am_fetch (am_mth 180) 79 = some (.iconst (-1), 1, [], [1, 2, 5, 6, 7, 8, 9]) := by decide +kernel
theorem bf180_80 : am_fetch (am_mth 180) 80 = some (.if_icmp .eq 24, 3, [], [1, 2, 5, 6, 7, 8, 9]) := by decide +kernel
theorem bf180_83 : am_fetch (am_mth 180) 83 = some (.aload 4, 2, [], [1, 2, 5, 6, 7, 8, 9]) := by decide +kernel
theorem bf180_85 : am_fetch (am_mth 180) 85 = some (.invokevirtual 122, 3, [0, 95, 0, 10, 1403, 1404, 1405, 66], [1, 2, 5, 6, 7, 8, 9]) := by decide +kernel
theorem bf180_88 : am_fetch (am_mth 180) 88 = some (.iconst (-1), 1, [], [1, 2, 5, 6, 7, 8, 9]) := by decide +kernel
theorem bf180_89 : am_fetch (am_mth 180) 89 = some (.if_icmp .eq 15, 3, [], [1, 2, 5, 6, 7, 8, 9]) := by decide +kernel
theorem bf180_92 : am_fetch (am_mth 180) 92 = some (.aload_n 3, 1, [], [1, 2, 5, 6, 7, 8, 9]) := by decide +kernel
theorem bf180_93 : am_fetch (am_mth 180) 93 = some (.invokevirtual 160, 3, [0, 38, 0, 10, 1434, 1435, 1436, 66], [1, 2, 5, 6, 7, 8, 9]) := by decide +kernel
theorem bf180_96 : am_fetch (am_mth 180) 96 = some (.aload 4, 2, [], [1, 2, 5, 6, 7, 8, 9]) := by decide +kernel
theorem bf180_98 : am_fetch (am_mth 180) 98 = some (.invokevirtual 160, 3, [0, 38, 0, 10, 1434, 1435, 1436, 66], [1, 2, 5, 6, 7, 8, 9]) := by decide +kernel
theorem bf180_101 : am_fetch (am_mth 180) 101 = some (.if_icmp .eq 7, 3, [], [1, 2, 5, 6, 7, 8, 9]) := by decide +kernel
theorem bf180_104 : am_fetch (am_mth 180) 104 = some (.iconst 1, 1, [], [1, 2, 5, 6, 7, 8, 9]) := by decide +kernel
theorem bf180_105 : am_fetch (am_mth 180) 105 = some (.goto 4, 3, [], [1, 2, 5, 6, 7, 8, 9]) := by decide +kernel
theorem bf180_108 : am_fetch (am_mth 180) 108 = some (.iconst 0, 1, [], [1, 2, 5, 6, 7, 8, 9]) := by decide +kernel
theorem bf180_109 : am_fetch (am_mth 180) 109 = some (.iconst 3, 1, [], [1, 2, 5, 6, 7, 8, 9]) := by decide +kernel
theorem bf180_110 : am_fetch (am_mth 180) 110 = some (.invokevirtual 38, 3, [0, 40, 2, 11, 1255, 1257, 19, 48], [1, 2, 5, 6, 7, 8, 9]) := by decide +kernel
theorem bf180_113 : am_fetch (am_mth 180) 113 = some (.ifCond .eq 5, 3, [], [1, 2, 5, 6, 7, 8, 9]) := by decide +kernel
theorem bf180_116 : am_fetch (am_mth 180) 116 = some (.iconst 0, 1, [], [0, 1, 2, 3, 4, 5, 6, 7, 8, 9]) := by decide +kernel
theorem bf180_117 : am_fetch (am_mth 180) 117 = some (.ireturn, 1, [0], [0, 1, 2, 3, 4, 5, 6, 7, 8, 9]) := by decide +kernel
theorem bf180_118 : am_fetch (am_mth 180) 118 = some (.iconst 0, 1, [], [1, 2, 5, 6, 7, 8, 9]) := by decide +kernel
theorem bf180_119 : am_fetch (am_mth 180) 119 = some (.istore 5, 2, [], [1, 2, 5, 6, 7, 8, 9]) := by decide +kernel
theorem bf180_121 : am_fetch (am_mth 180) 121 = some (.iconst 0, 1, [], [1, 2, 6, 7, 8, 9]) := by decide +kernel
theorem bf180_122 : am_fetch (am_mth 180) 122 = some (.istore 6, 2, [], [1, 2, 6, 7, 8, 9]) := by decide +kernel
theorem bf180_124 : am_fetch (am_mth 180) 124 = some (.iload 6, 2, [], [1, 2, 7, 8, 9]) := by decide +kernel
theorem bf180_126 : am_fetch (am_mth 180) 126 = some (.bipush 36, 2, [], [1, 2, 7, 8, 9]) := by decide +kernel
theorem bf180_128 : am_fetch (am_mth 180) 128 = some (.if_icmp .ge 116, 3, [], [1, 2, 7, 8, 9]) := by decide +kernel
theorem bf180_131 : am_fetch (am_mth 180) 131 = some (.iconst 0, 1, [], [1, 2, 7, 8, 9]) := by decide +kernel
theorem bf180_132 : am_fetch (am_mth 180) 132 = some (.istore 7, 2, [], [1, 2, 7, 8, 9]) := by decide +kernel
theorem bf180_134 : am_fetch (am_mth 180) 134 = some (.iload 7, 2, [], [1, 2, 8, 9]) := by decide +kernel
theorem bf180_136 : am_fetch (am_mth 180) 136 = some (.iconst 2, 1, [], [1, 2, 8, 9]) := by decide +kernel
theorem bf180_137 : am_fetch (am_mth 180) 137 = some (.if_icmp .ge 101, 3, [], [1, 2, 8, 9]) := by decide +kernel
theorem bf180_140 : am_fetch (am_mth 180) 140 = some (.aload_n 3, 1, [], [1, 2, 8, 9]) := by decide +kernel
theorem bf180_141 : am_fetch (am_mth 180) 141 = some (.getfield 71, 3, [0, 10, 4, 1309], [1, 2, 8, 9]) := by decide +kernel
theorem bf180_144 : am_fetch (am_mth 180) 144 = some (.iload 6, 2, [], [1, 2, 8, 9]) := by decide +kernel
theorem bf180_146 : am_fetch (am_mth 180) 146 = some (.aaload, 1, [], [1, 2, 8, 9]) := by decide +kernel
theorem bf180_147 : am_fetch (am_mth 180) 147 = some (.iload 7, 2, [], [1, 2, 8, 9]) := by decide +kernel
theorem bf180_149 : am_fetch (am_mth 180) 149 = some (.iaload, 1, [], [1, 2, 8, 9]) := by decide +kernel
theorem bf180_150 : am_fetch (am_mth 180) 150 = some (.istore 8, 2, [], [1, 2, 8, 9]) := by decide +kernel
theorem bf180_152 : am_fetch (am_mth 180) 152 = some (.aload 4, 2, [], [1, 2, 9]) := by decide +kernel
theorem bf180_154 : am_fetch (am_mth 180) 154 = some (.getfield 71, 3, [0, 10, 4, 1309], [1, 2, 9]) := by decide +kernel
theorem bf180_157 : am_fetch (am_mth 180) 157 = some (.iload 6, 2, [], [1, 2, 9]) := by decide +kernel
theorem bf180_159 : am_fetch (am_mth 180) 159 = some (.aaload, 1, [], [1, 2, 9]) := by decide +kernel
theorem bf180_160 : am_fetch (am_mth 180) 160 = some (.iload 7, 2, [], [1, 2, 9]) := by decide +kernel
theorem bf180_162 : am_fetch (am_mth 180) 162 = some (.iaload, 1, [], [1, 2, 9]) := by decide +kernel
theorem bf180_163 : am_fetch (am_mth 180) 163 = some (.istore 9, 2, [], [1, 2, 9]) := by decide +kernel
theorem bf180_165 : am_fetch (am_mth 180) 165 = some (.iload 8, 2, [], [1, 2]) := by decide +kernel
theorem bf180_167 : am_fetch (am_mth 180) 167 = some (.iload 9, 2, [], [1, 2]) := by decide +kernel
theorem bf180_169 : am_fetch (am_mth 180) 169 = some (.if_icmp .ne 6, 3, [], [1, 2]) := by decide +kernel
theorem bf180_172 : am_fetch (am_mth 180) 172 = some (.goto 60, 3, [], [1, 2, 8, 9]) := by decide +kernel
theorem bf180_175 : am_fetch (am_mth 180) 175 = some (.iload 8, 2, [], [1, 2]) := by decide +kernel
theorem bf180_177 : am_fetch (am_mth 180) 177 = some (.ifCond .eq 21, 3, [], [1, 2]) := by decide +kernel
theorem bf180_180 : am_fetch (am_mth 180) 180 = some (.iload 9, 2, [], [1, 2]) := by decide +kernel
theorem bf180_182 : am_fetch (am_mth 180) 182 = some (.ifCond .eq 16, 3, [], [1, 2]) := by decide +kernel
theorem bf180_185 : am_fetch (am_mth 180) 185 = some (.aload_n 0, 1, [], [1, 2, 8, 9]) := by decide +kernel
theorem bf180_186 : am_fetch (am_mth 180) 186 = some (.dup, 1, [], [1, 2, 8, 9]) := by decide +kernel
theorem bf180_187 : am_fetch (am_mth 180) 187 = some (.getfield 219, 3, [0, 11, 5, 1202], [1, 2, 8, 9]) := by decide +kernel
theorem bf180_190 : am_fetch (am_mth 180) 190 = some (.iconst 1, 1, [], [1, 2, 8, 9]) := by decide +kernel
theorem bf180_191 : am_fetch (am_mth 180) 191 = some (.iadd, 1, [], [1, 2, 8, 9]) := by decide +kernel
theorem bf180_192 : am_fetch (am_mth 180) 192 = some (.putfield 219, 3, [0, 11, 5, 1202], [1, 2, 8, 9]) := by decide +kernel
theorem bf180_195 : am_fetch (am_mth 180) 195 = some (.goto 37, 3, [], [1, 2, 8, 9]) := by decide +kernel
theorem bf180_198 : am_fetch (am_mth 180) 198 = some (.aload_n 3, 1, [], [1, 2]) := by decide +kernel
theorem bf180_199 : am_fetch (am_mth 180) 199 = some (.getfield 71, 3, [0, 10, 4, 1309], [1, 2]) := by decide +kernel
theorem bf180_202 : am_fetch (am_mth 180) 202 = some (.iload 6, 2, [], [1, 2]) := by decide +kernel
theorem bf180_204 : am_fetch (am_mth 180) 204 = some (.aaload, 1, [], [1, 2]) := by decide +kernel
theorem bf180_205 : am_fetch (am_mth 180) 205 = some (.iload 7, 2, [], [1, 2]) := by decide +kernel
theorem bf180_207 : am_fetch (am_mth 180) 207 = some (.iload 8, 2, [], [1, 2]) := by decide +kernel
theorem bf180_209 : am_fetch (am_mth 180) 209 = some (.iload 9, 2, [], [1, 2]) := by decide +kernel
theorem bf180_211 : am_fetch (am_mth 180) 211 = some (.iadd, 1, [], [1, 2]) := by decide +kernel
theorem bf180_212 : am_fetch (am_mth 180) 212 = some (.iastore, 1, [], [1, 2]) := by decide +kernel
theorem bf180_213 : am_fetch (am_mth 180) 213 = some (.aload 4, 2, [], [1, 2]) := by decide +kernel
theorem bf180_215 : am_fetch (am_mth 180) 215 = some (.getfield 71, 3, [0, 10, 4, 1309], [1, 2]) := by decide +kernel
theorem bf180_218 : am_fetch (am_mth 180) 218 = some (.iload 6, 2, [], [1, 2]) := by decide +kernel
theorem bf180_220 : am_fetch (am_mth 180) 220 = some (.aaload, 1, [], [1, 2]) := by decide +kernel
theorem bf180_221 : am_fetch (am_mth 180) 221 = some (.iload 7, 2, [], [1, 2]) := by decide +kernel
theorem bf180_223 : am_fetch (am_mth 180) 223 = some (.iload 8, 2, [], [1, 2]) := by decide +kernel
theorem bf180_225 : am_fetch (am_mth 180) 225 = some (.iload 9, 2, [], [1, 2, 8]) := by decide +kernel
theorem bf180_227 : am_fetch (am_mth 180) 227 = some (.iadd, 1, [], [1, 2, 8, 9]) := by decide +kernel
theorem bf180_228 : am_fetch (am_mth 180) 228 = some (.iastore, 1, [], [1, 2, 8, 9]) := by decide +kernel
theorem bf180_229 : am_fetch (am_mth 180) 229 = some (.iinc 5 1, 3, [], [1, 2, 8, 9]) := by decide +kernel
theorem bf180_232 : am_fetch (am_mth 180) 232 = some (.iinc 7 1, 3, [], [1, 2, 8, 9]) := by decide +kernel
theorem bf180_235 : am_fetch (am_mth 180) 235 = some (.goto (-101), 3, [], [1, 2, 8, 9]) := by decide +kernel
theorem bf180_238 : am_fetch (am_mth 180) 238 = some (.iinc 6 1, 3, [], [1, 2, 7, 8, 9]) := by decide +kernel
theorem bf180_241 : am_fetch (am_mth 180) 241 = some (.goto (-117), 3, [], [1, 2, 7, 8, 9]) := by decide +kernel
theorem bf180_244 : am_fetch (am_mth 180) 244 = some (.aload_n 0, 1, [], [1, 2, 3, 4, 6, 7, 8, 9]) := by decide +kernel
theorem bf180_245 : am_fetch (am_mth 180) 245 = some (.dup, 1, [], [0, 1, 2, 3, 4, 6, 7, 8, 9]) := by decide +kernel
theorem bf180_246 : am_fetch (am_mth 180) 246 = some (.getfield 222, 3, [0, 11, 4, 1201], [0, 1, 2, 3, 4, 6, 7, 8, 9]) := by decide +kernel
theorem bf180_249 : am_fetch (am_mth 180) 249 = some (.iconst 1, 1, [], [0, 1, 2, 3, 4, 6, 7, 8, 9]) := by decide +kernel
theorem bf180_250 : am_fetch (am_mth 180) 250 = some (.iadd, 1, [], [0, 1, 2, 3, 4, 6, 7, 8, 9]) := by decide +kernel
theorem bf180_251 : am_fetch (am_mth 180) 251 = some (.putfield 222, 3, [0, 11, 4, 1201], [0, 1, 2, 3, 4, 6, 7, 8, 9]) := by decide +kernel
theorem bf180_254 : am_fetch (am_mth 180) 254 = some (.iload 5, 2, [], [0, 1, 2, 3, 4, 6, 7, 8, 9]) := by decide +kernel
theorem bf180_256 : am_fetch (am_mth 180) 256 = some (.ireturn, 1, [0], [0, 1, 2, 3, 4, 5, 6, 7, 8, 9]) := by decide +kernel
theorem bk180_0 {w : am_Wd} {l0 : Nat} {l1 : Int32} {l2 : Int32} : am_run 180 0 [some (.ref l0), some (.int l1), some (.int l2), none, none, none, none, none, none, none] [] w = (am_kf w l0 11).bind fun _ => (am_x 99 [.ref l0, .int l1] w).bind fun r => bct r fun v w' => am_run 180 6 [some (.ref l0), some (.int l1), some (.int l2), none, none, none, none, none, none, none] (v.toList ++ [.ref l0]) w' := by
  refine (bu (ls'' := [some (.ref l0), some (.int l1), some (.int l2), none, none, none, none, none, none, none]) (st' := [.ref l0]) bf180_0 bf180_1 rfl rfl).trans ?_
  refine (bu (ls'' := [some (.ref l0), some (.int l1), some (.int l2), none, none, none, none, none, none, none]) (st' := [.ref l0, .ref l0]) bf180_1 bf180_2 rfl rfl).trans ?_
  refine (bu (ls'' := [some (.ref l0), some (.int l1), some (.int l2), none, none, none, none, none, none, none]) (st' := [.int l1, .ref l0, .ref l0]) bf180_2 bf180_3 rfl rfl).trans ?_
  exact bkV bf180_3 bf180_6 rfl (by decide +kernel) (Nat.le_of_ble_eq_true rfl) rfl (bhd rfl)
theorem bk180_6 {w : am_Wd} {l0 : Nat} {l1 : Int32} {l2 : Int32} {s0 : Int32} {s1 : Nat} : am_run 180 6 [some (.ref l0), some (.int l1), some (.int l2), none, none, none, none, none, none, none] [.int s0, .ref s1] w = if ¬ s0 = nI 0 then am_run 180 17 [some (.ref l0), some (.int l1), some (.int l2), none, none, none, none, none, none, none] [.ref s1] w else am_run 180 9 [some (.ref l0), some (.int l1), some (.int l2), none, none, none, none, none, none, none] [.ref s1] w := by
  exact bifc bf180_6 rfl bf180_17 bf180_9 rfl rfl rfl
theorem bk180_17 {w : am_Wd} {l0 : Nat} {l1 : Int32} {l2 : Int32} {s0 : Nat} : am_run 180 17 [some (.ref l0), some (.int l1), some (.int l2), none, none, none, none, none, none, none] [.ref s0] w = am_run 180 22 [some (.ref l0), some (.int l1), some (.int l2), none, none, none, none, none, none, none] [.int (nI 1), .ref s0] w := by
  refine (bu (ls'' := [some (.ref l0), some (.int l1), some (.int l2), none, none, none, none, none, none, none]) (st' := [.int (nI 1), .ref s0]) bf180_17 bf180_18 rfl rfl).trans ?_
  refine (bu (ls'' := [some (.ref l0), some (.int l1), some (.int l2), none, none, none, none, none, none, none]) (st' := [.int (nI 1), .ref s0]) bf180_18 bf180_22 rfl rfl).trans ?_
  rfl
theorem bk180_9 {w : am_Wd} {l0 : Nat} {l1 : Int32} {l2 : Int32} {s0 : Nat} : am_run 180 9 [some (.ref l0), some (.int l1), some (.int l2), none, none, none, none, none, none, none] [.ref s0] w = (am_kf w l0 11).bind fun _ => (am_x 99 [.ref l0, .int l2] w).bind fun r => bct r fun v w' => am_run 180 14 [some (.ref l0), some (.int l1), some (.int l2), none, none, none, none, none, none, none] (v.toList ++ [.ref s0]) w' := by
  refine (bu (ls'' := [some (.ref l0), some (.int l1), some (.int l2), none, none, none, none, none, none, none]) (st' := [.ref l0, .ref s0]) bf180_9 bf180_10 rfl rfl).trans ?_
  refine (bu (ls'' := [some (.ref l0), some (.int l1), some (.int l2), none, none, none, none, none, none, none]) (st' := [.int l2, .ref l0, .ref s0]) bf180_10 bf180_11 rfl rfl).trans ?_
  exact bkV bf180_11 bf180_14 rfl (by decide +kernel) (Nat.le_of_ble_eq_true rfl) rfl (bhd rfl)
theorem bk180_22 {w : am_Wd} {l0 : Nat} {l1 : Int32} {l2 : Int32} {s0 : Int32} {s1 : Nat} : am_run 180 22 [some (.ref l0), some (.int l1), some (.int l2), none, none, none, none, none, none, none] [.int s0, .ref s1] w = (am_kf w s1 11).bind fun _ => (am_x 96 [.ref s1, .int s0, .int (nI 1)] w).bind fun r => bct r fun v w' => am_run 180 26 [some (.ref l0), some (.int l1), some (.int l2), none, none, none, none, none, none, none] (v.toList ++ []) w' := by
  refine (bu (ls'' := [some (.ref l0), some (.int l1), some (.int l2), none, none, none, none, none, none, none]) (st' := [.int (nI 1), .int s0, .ref s1]) bf180_22 bf180_23 rfl rfl).trans ?_
  exact bkV bf180_23 bf180_26 rfl (by decide +kernel) (Nat.le_of_ble_eq_true rfl) rfl (bhd rfl)
theorem bk180_14 {w : am_Wd} {l0 : Nat} {l1 : Int32} {l2 : Int32} {s0 : Int32} {s1 : Nat} : am_run 180 14 [some (.ref l0), some (.int l1), some (.int l2), none, none, none, none, none, none, none] [.int s0, .ref s1] w = if s0 = nI 0 then am_run 180 21 [some (.ref l0), some (.int l1), some (.int l2), none, none, none, none, none, none, none] [.ref s1] w else am_run 180 17 [some (.ref l0), some (.int l1), some (.int l2), none, none, none, none, none, none, none] [.ref s1] w := by
  exact bifc bf180_14 rfl bf180_21 bf180_17 rfl rfl rfl
theorem bk180_26 {w : am_Wd} {l0 : Nat} {l1 : Int32} {l2 : Int32} {s0 : Int32} : am_run 180 26 [some (.ref l0), some (.int l1), some (.int l2), none, none, none, none, none, none, none] [.int s0] w = if ¬ s0 = nI 0 then am_run 180 47 [none, none, none, none, none, none, none, none, none, none] [] w else am_run 180 29 [some (.ref l0), some (.int l1), some (.int l2), none, none, none, none, none, none, none] [] w := by
  exact bifc bf180_26 rfl bf180_47 bf180_29 rfl rfl rfl
theorem bk180_21 {w : am_Wd} {l0 : Nat} {l1 : Int32} {l2 : Int32} {s0 : Nat} : am_run 180 21 [some (.ref l0), some (.int l1), some (.int l2), none, none, none, none, none, none, none] [.ref s0] w = am_run 180 22 [some (.ref l0), some (.int l1), some (.int l2), none, none, none, none, none, none, none] [.int (nI 0), .ref s0] w := by
  refine (bu (ls'' := [some (.ref l0), some (.int l1), some (.int l2), none, none, none, none, none, none, none]) (st' := [.int (nI 0), .ref s0]) bf180_21 bf180_22 rfl rfl).trans ?_
  rfl
theorem bk180_47 {w : am_Wd}  : am_run 180 47 [none, none, none, none, none, none, none, none, none, none] [] w = some (.inl (some (.int (nI 0))), w) := by
  refine (bu (ls'' := [none, none, none, none, none, none, none, none, none, none]) (st' := [.int (nI 0)]) bf180_47 bf180_48 rfl rfl).trans ?_
  exact am_e2 bf180_48 rfl (am_ge_rf w)
theorem bk180_29 {w : am_Wd} {l0 : Nat} {l1 : Int32} {l2 : Int32} : am_run 180 29 [some (.ref l0), some (.int l1), some (.int l2), none, none, none, none, none, none, none] [] w = if ¬ l1 = l2 then am_run 180 39 [some (.ref l0), some (.int l1), some (.int l2), none, none, none, none, none, none, none] [.ref l0] w else am_run 180 35 [some (.ref l0), some (.int l1), some (.int l2), none, none, none, none, none, none, none] [.ref l0] w := by
  refine (bu (ls'' := [some (.ref l0), some (.int l1), some (.int l2), none, none, none, none, none, none, none]) (st' := [.ref l0]) bf180_29 bf180_30 rfl rfl).trans ?_
  refine (bu (ls'' := [some (.ref l0), some (.int l1), some (.int l2), none, none, none, none, none, none, none]) (st' := [.int l1, .ref l0]) bf180_30 bf180_31 rfl rfl).trans ?_
  refine (bu (ls'' := [some (.ref l0), some (.int l1), some (.int l2), none, none, none, none, none, none, none]) (st' := [.int l2, .int l1, .ref l0]) bf180_31 bf180_32 rfl rfl).trans ?_
  exact bic bf180_32 rfl bf180_39 bf180_35 rfl rfl rfl
theorem bk180_39 {w : am_Wd} {l0 : Nat} {l1 : Int32} {l2 : Int32} {s0 : Nat} : am_run 180 39 [some (.ref l0), some (.int l1), some (.int l2), none, none, none, none, none, none, none] [.ref s0] w = am_run 180 40 [some (.ref l0), some (.int l1), some (.int l2), none, none, none, none, none, none, none] [.int (nI 0), .ref s0] w := by
  refine (bu (ls'' := [some (.ref l0), some (.int l1), some (.int l2), none, none, none, none, none, none, none]) (st' := [.int (nI 0), .ref s0]) bf180_39 bf180_40 rfl rfl).trans ?_
  rfl
theorem bk180_35 {w : am_Wd} {l0 : Nat} {l1 : Int32} {l2 : Int32} {s0 : Nat} : am_run 180 35 [some (.ref l0), some (.int l1), some (.int l2), none, none, none, none, none, none, none] [.ref s0] w = am_run 180 40 [some (.ref l0), some (.int l1), some (.int l2), none, none, none, none, none, none, none] [.int (nI 1), .ref s0] w := by
  refine (bu (ls'' := [some (.ref l0), some (.int l1), some (.int l2), none, none, none, none, none, none, none]) (st' := [.int (nI 1), .ref s0]) bf180_35 bf180_36 rfl rfl).trans ?_
  refine (bu (ls'' := [some (.ref l0), some (.int l1), some (.int l2), none, none, none, none, none, none, none]) (st' := [.int (nI 1), .ref s0]) bf180_36 bf180_40 rfl rfl).trans ?_
  rfl
theorem bk180_40 {w : am_Wd} {l0 : Nat} {l1 : Int32} {l2 : Int32} {s0 : Int32} {s1 : Nat} : am_run 180 40 [some (.ref l0), some (.int l1), some (.int l2), none, none, none, none, none, none, none] [.int s0, .ref s1] w = (am_kf w s1 11).bind fun _ => (am_x 40 [.ref s1, .int s0, .int (nI 2)] w).bind fun r => bct r fun v w' => am_run 180 44 [some (.ref l0), some (.int l1), some (.int l2), none, none, none, none, none, none, none] (v.toList ++ []) w' := by
  refine (bu (ls'' := [some (.ref l0), some (.int l1), some (.int l2), none, none, none, none, none, none, none]) (st' := [.int (nI 2), .int s0, .ref s1]) bf180_40 bf180_41 rfl rfl).trans ?_
  exact bkV bf180_41 bf180_44 rfl (by decide +kernel) (Nat.le_of_ble_eq_true rfl) rfl (bhd rfl)
theorem bk180_44 {w : am_Wd} {l0 : Nat} {l1 : Int32} {l2 : Int32} {s0 : Int32} : am_run 180 44 [some (.ref l0), some (.int l1), some (.int l2), none, none, none, none, none, none, none] [.int s0] w = if s0 = nI 0 then am_run 180 49 [some (.ref l0), some (.int l1), some (.int l2), none, none, none, none, none, none, none] [] w else am_run 180 47 [none, none, none, none, none, none, none, none, none, none] [] w := by
  exact bifc bf180_44 rfl bf180_49 bf180_47 rfl rfl rfl
theorem bk180_49 {w : am_Wd} {l0 : Nat} {l1 : Int32} {l2 : Int32} : am_run 180 49 [some (.ref l0), some (.int l1), some (.int l2), none, none, none, none, none, none, none] [] w = (am_gf w l0 11 11).bind fun v => am_run 180 53 [some (.ref l0), some (.int l1), some (.int l2), none, none, none, none, none, none, none] (v :: []) w := by
  refine (bu (ls'' := [some (.ref l0), some (.int l1), some (.int l2), none, none, none, none, none, none, none]) (st' := [.ref l0]) bf180_49 bf180_50 rfl rfl).trans ?_
  exact bh bf180_50 bf180_53 rfl (fun _ _ => am_ge_rf w) rfl
theorem bk180_53 {w : am_Wd} {l0 : Nat} {l1 : Int32} {l2 : Int32} {s0 : Nat} : am_run 180 53 [some (.ref l0), some (.int l1), some (.int l2), none, none, none, none, none, none, none] [.ref s0] w = (am_kf w s0 3).bind fun _ => (am_x 150 [.ref s0, .int l1] w).bind fun r => bct r fun v w' => am_run 180 57 [some (.ref l0), none, some (.int l2), none, none, none, none, none, none, none] (v.toList ++ []) w' := by
  refine (bu (ls'' := [some (.ref l0), none, some (.int l2), none, none, none, none, none, none, none]) (st' := [.int l1, .ref s0]) bf180_53 bf180_54 rfl rfl).trans ?_
  exact bkV bf180_54 bf180_57 rfl (by decide +kernel) (Nat.le_of_ble_eq_true rfl) rfl (bhd rfl)
theorem bk180_57 {w : am_Wd} {l0 : Nat} {l2 : Int32} {s0 : Nat} : am_run 180 57 [some (.ref l0), none, some (.int l2), none, none, none, none, none, none, none] [.ref s0] w = (am_kf w s0 10).bind fun _ => am_run 180 60 [some (.ref l0), none, some (.int l2), none, none, none, none, none, none, none] [.ref s0] w := by
  exact bh bf180_57 bf180_60 rfl (fun _ _ => am_ge_rf w) rfl
theorem bk180_60 {w : am_Wd} {l0 : Nat} {l2 : Int32} {s0 : Nat} : am_run 180 60 [some (.ref l0), none, some (.int l2), none, none, none, none, none, none, none] [.ref s0] w = (am_gf w l0 11 11).bind fun v => am_run 180 65 [some (.ref l0), none, some (.int l2), some (.ref s0), none, none, none, none, none, none] (v :: []) w := by
  refine (bu (ls'' := [some (.ref l0), none, some (.int l2), some (.ref s0), none, none, none, none, none, none]) (st' := []) bf180_60 bf180_61 rfl rfl).trans ?_
  refine (bu (ls'' := [some (.ref l0), none, some (.int l2), some (.ref s0), none, none, none, none, none, none]) (st' := [.ref l0]) bf180_61 bf180_62 rfl rfl).trans ?_
  exact bh bf180_62 bf180_65 rfl (fun _ _ => am_ge_rf w) rfl
theorem bk180_65 {w : am_Wd} {l0 : Nat} {l2 : Int32} {l3 : Nat} {s0 : Nat} : am_run 180 65 [some (.ref l0), none, some (.int l2), some (.ref l3), none, none, none, none, none, none] [.ref s0] w = (am_kf w s0 3).bind fun _ => (am_x 150 [.ref s0, .int l2] w).bind fun r => bct r fun v w' => am_run 180 69 [some (.ref l0), none, none, some (.ref l3), none, none, none, none, none, none] (v.toList ++ []) w' := by
  refine (bu (ls'' := [some (.ref l0), none, none, some (.ref l3), none, none, none, none, none, none]) (st' := [.int l2, .ref s0]) bf180_65 bf180_66 rfl rfl).trans ?_
  exact bkV bf180_66 bf180_69 rfl (by decide +kernel) (Nat.le_of_ble_eq_true rfl) rfl (bhd rfl)
theorem bk180_69 {w : am_Wd} {l0 : Nat} {l3 : Nat} {s0 : Nat} : am_run 180 69 [some (.ref l0), none, none, some (.ref l3), none, none, none, none, none, none] [.ref s0] w = (am_kf w s0 10).bind fun _ => am_run 180 72 [some (.ref l0), none, none, some (.ref l3), none, none, none, none, none, none] [.ref s0] w := by
  exact bh bf180_69 bf180_72 rfl (fun _ _ => am_ge_rf w) rfl
theorem bk180_72 {w : am_Wd} {l0 : Nat} {l3 : Nat} {s0 : Nat} : am_run 180 72 [some (.ref l0), none, none, some (.ref l3), none, none, none, none, none, none] [.ref s0] w = (am_kf w l3 10).bind fun _ => (am_x 95 [.ref l3] w).bind fun r => bct r fun v w' => am_run 180 79 [some (.ref l0), none, none, some (.ref l3), some (.ref s0), none, none, none, none, none] (v.toList ++ [.ref l0]) w' := by
  refine (bu (ls'' := [some (.ref l0), none, none, some (.ref l3), some (.ref s0), none, none, none, none, none]) (st' := []) bf180_72 bf180_74 rfl rfl).trans ?_
  refine (bu (ls'' := [some (.ref l0), none, none, some (.ref l3), some (.ref s0), none, none, none, none, none]) (st' := [.ref l0]) bf180_74 bf180_75 rfl rfl).trans ?_
  refine (bu (ls'' := [some (.ref l0), none, none, some (.ref l3), some (.ref s0), none, none, none, none, none]) (st' := [.ref l3, .ref l0]) bf180_75 bf180_76 rfl rfl).trans ?_
  exact bkV bf180_76 bf180_79 rfl (by decide +kernel) (Nat.le_of_ble_eq_true rfl) rfl (bhd rfl)
theorem bk180_79 {w : am_Wd} {l0 : Nat} {l3 : Nat} {l4 : Nat} {s0 : Int32} {s1 : Nat} : am_run 180 79 [some (.ref l0), none, none, some (.ref l3), some (.ref l4), none, none, none, none, none] [.int s0, .ref s1] w = if s0 = (-1 : Int32) then am_run 180 104 [some (.ref l0), none, none, some (.ref l3), some (.ref l4), none, none, none, none, none] [.ref s1] w else am_run 180 83 [some (.ref l0), none, none, some (.ref l3), some (.ref l4), none, none, none, none, none] [.ref s1] w := by
  refine (bu (ls'' := [some (.ref l0), none, none, some (.ref l3), some (.ref l4), none, none, none, none, none]) (st' := [.int (-1 : Int32), .int s0, .ref s1]) bf180_79 bf180_80 rfl rfl).trans ?_
  exact bic bf180_80 rfl bf180_104 bf180_83 rfl rfl rfl
theorem bk180_104 {w : am_Wd} {l0 : Nat} {l3 : Nat} {l4 : Nat} {s0 : Nat} : am_run 180 104 [some (.ref l0), none, none, some (.ref l3), some (.ref l4), none, none, none, none, none] [.ref s0] w = am_run 180 109 [some (.ref l0), none, none, some (.ref l3), some (.ref l4), none, none, none, none, none] [.int (nI 1), .ref s0] w := by
  refine (bu (ls'' := [some (.ref l0), none, none, some (.ref l3), some (.ref l4), none, none, none, none, none]) (st' := [.int (nI 1), .ref s0]) bf180_104 bf180_105 rfl rfl).trans ?_
  refine (bu (ls'' := [some (.ref l0), none, none, some (.ref l3), some (.ref l4), none, none, none, none, none]) (st' := [.int (nI 1), .ref s0]) bf180_105 bf180_109 rfl rfl).trans ?_
  rfl
theorem bk180_83 {w : am_Wd} {l0 : Nat} {l3 : Nat} {l4 : Nat} {s0 : Nat} : am_run 180 83 [some (.ref l0), none, none, some (.ref l3), some (.ref l4), none, none, none, none, none] [.ref s0] w = (am_kf w l4 10).bind fun _ => (am_x 95 [.ref l4] w).bind fun r => bct r fun v w' => am_run 180 88 [some (.ref l0), none, none, some (.ref l3), some (.ref l4), none, none, none, none, none] (v.toList ++ [.ref s0]) w' := by
  refine (bu (ls'' := [some (.ref l0), none, none, some (.ref l3), some (.ref l4), none, none, none, none, none]) (st' := [.ref l4, .ref s0]) bf180_83 bf180_85 rfl rfl).trans ?_
  exact bkV bf180_85 bf180_88 rfl (by decide +kernel) (Nat.le_of_ble_eq_true rfl) rfl (bhd rfl)
theorem bk180_109 {w : am_Wd} {l0 : Nat} {l3 : Nat} {l4 : Nat} {s0 : Int32} {s1 : Nat} : am_run 180 109 [some (.ref l0), none, none, some (.ref l3), some (.ref l4), none, none, none, none, none] [.int s0, .ref s1] w = (am_kf w s1 11).bind fun _ => (am_x 40 [.ref s1, .int s0, .int (nI 3)] w).bind fun r => bct r fun v w' => am_run 180 113 [some (.ref l0), none, none, some (.ref l3), some (.ref l4), none, none, none, none, none] (v.toList ++ []) w' := by
  refine (bu (ls'' := [some (.ref l0), none, none, some (.ref l3), some (.ref l4), none, none, none, none, none]) (st' := [.int (nI 3), .int s0, .ref s1]) bf180_109 bf180_110 rfl rfl).trans ?_
  exact bkV bf180_110 bf180_113 rfl (by decide +kernel) (Nat.le_of_ble_eq_true rfl) rfl (bhd rfl)
theorem bk180_88 {w : am_Wd} {l0 : Nat} {l3 : Nat} {l4 : Nat} {s0 : Int32} {s1 : Nat} : am_run 180 88 [some (.ref l0), none, none, some (.ref l3), some (.ref l4), none, none, none, none, none] [.int s0, .ref s1] w = if s0 = (-1 : Int32) then am_run 180 104 [some (.ref l0), none, none, some (.ref l3), some (.ref l4), none, none, none, none, none] [.ref s1] w else am_run 180 92 [some (.ref l0), none, none, some (.ref l3), some (.ref l4), none, none, none, none, none] [.ref s1] w := by
  refine (bu (ls'' := [some (.ref l0), none, none, some (.ref l3), some (.ref l4), none, none, none, none, none]) (st' := [.int (-1 : Int32), .int s0, .ref s1]) bf180_88 bf180_89 rfl rfl).trans ?_
  exact bic bf180_89 rfl bf180_104 bf180_92 rfl rfl rfl
theorem bk180_113 {w : am_Wd} {l0 : Nat} {l3 : Nat} {l4 : Nat} {s0 : Int32} : am_run 180 113 [some (.ref l0), none, none, some (.ref l3), some (.ref l4), none, none, none, none, none] [.int s0] w = if s0 = nI 0 then am_run 180 118 [some (.ref l0), none, none, some (.ref l3), some (.ref l4), none, none, none, none, none] [] w else am_run 180 116 [none, none, none, none, none, none, none, none, none, none] [] w := by
  exact bifc bf180_113 rfl bf180_118 bf180_116 rfl rfl rfl
theorem bk180_92 {w : am_Wd} {l0 : Nat} {l3 : Nat} {l4 : Nat} {s0 : Nat} : am_run 180 92 [some (.ref l0), none, none, some (.ref l3), some (.ref l4), none, none, none, none, none] [.ref s0] w = (am_kf w l3 10).bind fun _ => (am_x 38 [.ref l3] w).bind fun r => bct r fun v w' => am_run 180 96 [some (.ref l0), none, none, some (.ref l3), some (.ref l4), none, none, none, none, none] (v.toList ++ [.ref s0]) w' := by
  refine (bu (ls'' := [some (.ref l0), none, none, some (.ref l3), some (.ref l4), none, none, none, none, none]) (st' := [.ref l3, .ref s0]) bf180_92 bf180_93 rfl rfl).trans ?_
  exact bkV bf180_93 bf180_96 rfl (by decide +kernel) (Nat.le_of_ble_eq_true rfl) rfl (bhd rfl)
theorem bk180_118 {w : am_Wd} {l0 : Nat} {l3 : Nat} {l4 : Nat} : am_run 180 118 [some (.ref l0), none, none, some (.ref l3), some (.ref l4), none, none, none, none, none] [] w = am_run 180 124 [some (.ref l0), none, none, some (.ref l3), some (.ref l4), some (.int (nI 0)), some (.int (nI 0)), none, none, none] [] w := by
  refine (bu (ls'' := [some (.ref l0), none, none, some (.ref l3), some (.ref l4), none, none, none, none, none]) (st' := [.int (nI 0)]) bf180_118 bf180_119 rfl rfl).trans ?_
  refine (bu (ls'' := [some (.ref l0), none, none, some (.ref l3), some (.ref l4), some (.int (nI 0)), none, none, none, none]) (st' := []) bf180_119 bf180_121 rfl rfl).trans ?_
  refine (bu (ls'' := [some (.ref l0), none, none, some (.ref l3), some (.ref l4), some (.int (nI 0)), none, none, none, none]) (st' := [.int (nI 0)]) bf180_121 bf180_122 rfl rfl).trans ?_
  refine (bu (ls'' := [some (.ref l0), none, none, some (.ref l3), some (.ref l4), some (.int (nI 0)), some (.int (nI 0)), none, none, none]) (st' := []) bf180_122 bf180_124 rfl rfl).trans ?_
  rfl
theorem bk180_116 {w : am_Wd}  : am_run 180 116 [none, none, none, none, none, none, none, none, none, none] [] w = some (.inl (some (.int (nI 0))), w) := by
  refine (bu (ls'' := [none, none, none, none, none, none, none, none, none, none]) (st' := [.int (nI 0)]) bf180_116 bf180_117 rfl rfl).trans ?_
  exact am_e2 bf180_117 rfl (am_ge_rf w)
theorem bk180_96 {w : am_Wd} {l0 : Nat} {l3 : Nat} {l4 : Nat} {s0 : Int32} {s1 : Nat} : am_run 180 96 [some (.ref l0), none, none, some (.ref l3), some (.ref l4), none, none, none, none, none] [.int s0, .ref s1] w = (am_kf w l4 10).bind fun _ => (am_x 38 [.ref l4] w).bind fun r => bct r fun v w' => am_run 180 101 [some (.ref l0), none, none, some (.ref l3), some (.ref l4), none, none, none, none, none] (v.toList ++ [.int s0, .ref s1]) w' := by
  refine (bu (ls'' := [some (.ref l0), none, none, some (.ref l3), some (.ref l4), none, none, none, none, none]) (st' := [.ref l4, .int s0, .ref s1]) bf180_96 bf180_98 rfl rfl).trans ?_
  exact bkV bf180_98 bf180_101 rfl (by decide +kernel) (Nat.le_of_ble_eq_true rfl) rfl (bhd rfl)
theorem bk180_124 {w : am_Wd} {l0 : Nat} {l3 : Nat} {l4 : Nat} {l5 : Int32} {l6 : Int32} : am_run 180 124 [some (.ref l0), none, none, some (.ref l3), some (.ref l4), some (.int l5), some (.int l6), none, none, none] [] w = if (nI 36) ≤ l6 then am_run 180 244 [some (.ref l0), none, none, none, none, some (.int l5), none, none, none, none] [] w else am_run 180 131 [some (.ref l0), none, none, some (.ref l3), some (.ref l4), some (.int l5), some (.int l6), none, none, none] [] w := by
  refine (bu (ls'' := [some (.ref l0), none, none, some (.ref l3), some (.ref l4), some (.int l5), some (.int l6), none, none, none]) (st' := [.int l6]) bf180_124 bf180_126 rfl rfl).trans ?_
  refine (bu (ls'' := [some (.ref l0), none, none, some (.ref l3), some (.ref l4), some (.int l5), some (.int l6), none, none, none]) (st' := [.int (nI 36), .int l6]) bf180_126 bf180_128 rfl rfl).trans ?_
  exact bic bf180_128 rfl bf180_244 bf180_131 rfl rfl rfl
theorem bk180_101 {w : am_Wd} {l0 : Nat} {l3 : Nat} {l4 : Nat} {s0 : Int32} {s1 : Int32} {s2 : Nat} : am_run 180 101 [some (.ref l0), none, none, some (.ref l3), some (.ref l4), none, none, none, none, none] [.int s0, .int s1, .ref s2] w = if s1 = s0 then am_run 180 108 [some (.ref l0), none, none, some (.ref l3), some (.ref l4), none, none, none, none, none] [.ref s2] w else am_run 180 104 [some (.ref l0), none, none, some (.ref l3), some (.ref l4), none, none, none, none, none] [.ref s2] w := by
  exact bic bf180_101 rfl bf180_108 bf180_104 rfl rfl rfl
theorem bk180_244 {w : am_Wd} {l0 : Nat} {l5 : Int32} : am_run 180 244 [some (.ref l0), none, none, none, none, some (.int l5), none, none, none, none] [] w = (am_gf w l0 11 4).bind fun v => am_run 180 249 [none, none, none, none, none, some (.int l5), none, none, none, none] (v :: [.ref l0]) w := by
  refine (bu (ls'' := [none, none, none, none, none, some (.int l5), none, none, none, none]) (st' := [.ref l0]) bf180_244 bf180_245 rfl rfl).trans ?_
  refine (bu (ls'' := [none, none, none, none, none, some (.int l5), none, none, none, none]) (st' := [.ref l0, .ref l0]) bf180_245 bf180_246 rfl rfl).trans ?_
  exact bh bf180_246 bf180_249 rfl (fun _ _ => am_ge_rf w) rfl
theorem bk180_131 {w : am_Wd} {l0 : Nat} {l3 : Nat} {l4 : Nat} {l5 : Int32} {l6 : Int32} : am_run 180 131 [some (.ref l0), none, none, some (.ref l3), some (.ref l4), some (.int l5), some (.int l6), none, none, none] [] w = am_run 180 134 [some (.ref l0), none, none, some (.ref l3), some (.ref l4), some (.int l5), some (.int l6), some (.int (nI 0)), none, none] [] w := by
  refine (bu (ls'' := [some (.ref l0), none, none, some (.ref l3), some (.ref l4), some (.int l5), some (.int l6), none, none, none]) (st' := [.int (nI 0)]) bf180_131 bf180_132 rfl rfl).trans ?_
  refine (bu (ls'' := [some (.ref l0), none, none, some (.ref l3), some (.ref l4), some (.int l5), some (.int l6), some (.int (nI 0)), none, none]) (st' := []) bf180_132 bf180_134 rfl rfl).trans ?_
  rfl
theorem bk180_108 {w : am_Wd} {l0 : Nat} {l3 : Nat} {l4 : Nat} {s0 : Nat} : am_run 180 108 [some (.ref l0), none, none, some (.ref l3), some (.ref l4), none, none, none, none, none] [.ref s0] w = am_run 180 109 [some (.ref l0), none, none, some (.ref l3), some (.ref l4), none, none, none, none, none] [.int (nI 0), .ref s0] w := by
  refine (bu (ls'' := [some (.ref l0), none, none, some (.ref l3), some (.ref l4), none, none, none, none, none]) (st' := [.int (nI 0), .ref s0]) bf180_108 bf180_109 rfl rfl).trans ?_
  rfl
theorem bk180_249 {w : am_Wd} {l5 : Int32} {s0 : Int32} {s1 : Nat} : am_run 180 249 [none, none, none, none, none, some (.int l5), none, none, none, none] [.int s0, .ref s1] w = (am_pf w s1 11 4 (.int (s0 + (nI 1)))).bind fun w' => am_run 180 254 [none, none, none, none, none, some (.int l5), none, none, none, none] [] w' := by
  refine (bu (ls'' := [none, none, none, none, none, some (.int l5), none, none, none, none]) (st' := [.int (nI 1), .int s0, .ref s1]) bf180_249 bf180_250 rfl rfl).trans ?_
  refine (bu (ls'' := [none, none, none, none, none, some (.int l5), none, none, none, none]) (st' := [.int (s0 + (nI 1)), .ref s1]) bf180_250 bf180_251 rfl rfl).trans ?_
  exact bh bf180_251 bf180_254 rfl (bge_pf) rfl
theorem bk180_134 {w : am_Wd} {l0 : Nat} {l3 : Nat} {l4 : Nat} {l5 : Int32} {l6 : Int32} {l7 : Int32} : am_run 180 134 [some (.ref l0), none, none, some (.ref l3), some (.ref l4), some (.int l5), some (.int l6), some (.int l7), none, none] [] w = if (nI 2) ≤ l7 then am_run 180 238 [some (.ref l0), none, none, some (.ref l3), some (.ref l4), some (.int l5), some (.int l6), none, none, none] [] w else am_run 180 140 [some (.ref l0), none, none, some (.ref l3), some (.ref l4), some (.int l5), some (.int l6), some (.int l7), none, none] [] w := by
  refine (bu (ls'' := [some (.ref l0), none, none, some (.ref l3), some (.ref l4), some (.int l5), some (.int l6), some (.int l7), none, none]) (st' := [.int l7]) bf180_134 bf180_136 rfl rfl).trans ?_
  refine (bu (ls'' := [some (.ref l0), none, none, some (.ref l3), some (.ref l4), some (.int l5), some (.int l6), some (.int l7), none, none]) (st' := [.int (nI 2), .int l7]) bf180_136 bf180_137 rfl rfl).trans ?_
  exact bic bf180_137 rfl bf180_238 bf180_140 rfl rfl rfl
theorem bk180_254 {w : am_Wd} {l5 : Int32} : am_run 180 254 [none, none, none, none, none, some (.int l5), none, none, none, none] [] w = some (.inl (some (.int l5)), w) := by
  refine (bu (ls'' := [none, none, none, none, none, none, none, none, none, none]) (st' := [.int l5]) bf180_254 bf180_256 rfl rfl).trans ?_
  exact am_e2 bf180_256 rfl (am_ge_rf w)
theorem bk180_238 {w : am_Wd} {l0 : Nat} {l3 : Nat} {l4 : Nat} {l5 : Int32} {l6 : Int32} : am_run 180 238 [some (.ref l0), none, none, some (.ref l3), some (.ref l4), some (.int l5), some (.int l6), none, none, none] [] w = am_run 180 124 [some (.ref l0), none, none, some (.ref l3), some (.ref l4), some (.int l5), some (.int (l6 + (nI 1))), none, none, none] [] w := by
  refine (bu (ls'' := [some (.ref l0), none, none, some (.ref l3), some (.ref l4), some (.int l5), some (.int (l6 + (nI 1))), none, none, none]) (st' := []) bf180_238 bf180_241 rfl rfl).trans ?_
  refine (bu (ls'' := [some (.ref l0), none, none, some (.ref l3), some (.ref l4), some (.int l5), some (.int (l6 + (nI 1))), none, none, none]) (st' := []) bf180_241 bf180_124 rfl rfl).trans ?_
  rfl
theorem bk180_140 {w : am_Wd} {l0 : Nat} {l3 : Nat} {l4 : Nat} {l5 : Int32} {l6 : Int32} {l7 : Int32} : am_run 180 140 [some (.ref l0), none, none, some (.ref l3), some (.ref l4), some (.int l5), some (.int l6), some (.int l7), none, none] [] w = (am_gf w l3 10 4).bind fun v => am_run 180 144 [some (.ref l0), none, none, some (.ref l3), some (.ref l4), some (.int l5), some (.int l6), some (.int l7), none, none] (v :: []) w := by
  refine (bu (ls'' := [some (.ref l0), none, none, some (.ref l3), some (.ref l4), some (.int l5), some (.int l6), some (.int l7), none, none]) (st' := [.ref l3]) bf180_140 bf180_141 rfl rfl).trans ?_
  exact bh bf180_141 bf180_144 rfl (fun _ _ => am_ge_rf w) rfl
theorem bk180_144 {w : am_Wd} {l0 : Nat} {l3 : Nat} {l4 : Nat} {l5 : Int32} {l6 : Int32} {l7 : Int32} {s0 : Nat} : am_run 180 144 [some (.ref l0), none, none, some (.ref l3), some (.ref l4), some (.int l5), some (.int l6), some (.int l7), none, none] [.ref s0] w = (am_rq w s0 l6).bind fun v => am_run 180 147 [some (.ref l0), none, none, some (.ref l3), some (.ref l4), some (.int l5), some (.int l6), some (.int l7), none, none] (v :: []) w := by
  refine (bu (ls'' := [some (.ref l0), none, none, some (.ref l3), some (.ref l4), some (.int l5), some (.int l6), some (.int l7), none, none]) (st' := [.int l6, .ref s0]) bf180_144 bf180_146 rfl rfl).trans ?_
  exact bh bf180_146 bf180_147 rfl (fun _ _ => am_ge_rf w) rfl
theorem bk180_147 {w : am_Wd} {l0 : Nat} {l3 : Nat} {l4 : Nat} {l5 : Int32} {l6 : Int32} {l7 : Int32} {s0 : Nat} : am_run 180 147 [some (.ref l0), none, none, some (.ref l3), some (.ref l4), some (.int l5), some (.int l6), some (.int l7), none, none] [.ref s0] w = (am_ri 0 w s0 l7).bind fun v => am_run 180 150 [some (.ref l0), none, none, some (.ref l3), some (.ref l4), some (.int l5), some (.int l6), some (.int l7), none, none] (.int v :: []) w := by
  refine (bu (ls'' := [some (.ref l0), none, none, some (.ref l3), some (.ref l4), some (.int l5), some (.int l6), some (.int l7), none, none]) (st' := [.int l7, .ref s0]) bf180_147 bf180_149 rfl rfl).trans ?_
  exact bh bf180_149 bf180_150 rfl (fun _ _ => am_ge_rf w) rfl
theorem bk180_150 {w : am_Wd} {l0 : Nat} {l3 : Nat} {l4 : Nat} {l5 : Int32} {l6 : Int32} {l7 : Int32} {s0 : Int32} : am_run 180 150 [some (.ref l0), none, none, some (.ref l3), some (.ref l4), some (.int l5), some (.int l6), some (.int l7), none, none] [.int s0] w = (am_gf w l4 10 4).bind fun v => am_run 180 157 [some (.ref l0), none, none, some (.ref l3), some (.ref l4), some (.int l5), some (.int l6), some (.int l7), some (.int s0), none] (v :: []) w := by
  refine (bu (ls'' := [some (.ref l0), none, none, some (.ref l3), some (.ref l4), some (.int l5), some (.int l6), some (.int l7), some (.int s0), none]) (st' := []) bf180_150 bf180_152 rfl rfl).trans ?_
  refine (bu (ls'' := [some (.ref l0), none, none, some (.ref l3), some (.ref l4), some (.int l5), some (.int l6), some (.int l7), some (.int s0), none]) (st' := [.ref l4]) bf180_152 bf180_154 rfl rfl).trans ?_
  exact bh bf180_154 bf180_157 rfl (fun _ _ => am_ge_rf w) rfl
theorem bk180_157 {w : am_Wd} {l0 : Nat} {l3 : Nat} {l4 : Nat} {l5 : Int32} {l6 : Int32} {l7 : Int32} {l8 : Int32} {s0 : Nat} : am_run 180 157 [some (.ref l0), none, none, some (.ref l3), some (.ref l4), some (.int l5), some (.int l6), some (.int l7), some (.int l8), none] [.ref s0] w = (am_rq w s0 l6).bind fun v => am_run 180 160 [some (.ref l0), none, none, some (.ref l3), some (.ref l4), some (.int l5), some (.int l6), some (.int l7), some (.int l8), none] (v :: []) w := by
  refine (bu (ls'' := [some (.ref l0), none, none, some (.ref l3), some (.ref l4), some (.int l5), some (.int l6), some (.int l7), some (.int l8), none]) (st' := [.int l6, .ref s0]) bf180_157 bf180_159 rfl rfl).trans ?_
  exact bh bf180_159 bf180_160 rfl (fun _ _ => am_ge_rf w) rfl
theorem bk180_160 {w : am_Wd} {l0 : Nat} {l3 : Nat} {l4 : Nat} {l5 : Int32} {l6 : Int32} {l7 : Int32} {l8 : Int32} {s0 : Nat} : am_run 180 160 [some (.ref l0), none, none, some (.ref l3), some (.ref l4), some (.int l5), some (.int l6), some (.int l7), some (.int l8), none] [.ref s0] w = (am_ri 0 w s0 l7).bind fun v => am_run 180 163 [some (.ref l0), none, none, some (.ref l3), some (.ref l4), some (.int l5), some (.int l6), some (.int l7), some (.int l8), none] (.int v :: []) w := by
  refine (bu (ls'' := [some (.ref l0), none, none, some (.ref l3), some (.ref l4), some (.int l5), some (.int l6), some (.int l7), some (.int l8), none]) (st' := [.int l7, .ref s0]) bf180_160 bf180_162 rfl rfl).trans ?_
  exact bh bf180_162 bf180_163 rfl (fun _ _ => am_ge_rf w) rfl
theorem bk180_163 {w : am_Wd} {l0 : Nat} {l3 : Nat} {l4 : Nat} {l5 : Int32} {l6 : Int32} {l7 : Int32} {l8 : Int32} {s0 : Int32} : am_run 180 163 [some (.ref l0), none, none, some (.ref l3), some (.ref l4), some (.int l5), some (.int l6), some (.int l7), some (.int l8), none] [.int s0] w = if ¬ l8 = s0 then am_run 180 175 [some (.ref l0), none, none, some (.ref l3), some (.ref l4), some (.int l5), some (.int l6), some (.int l7), some (.int l8), some (.int s0)] [] w else am_run 180 172 [some (.ref l0), none, none, some (.ref l3), some (.ref l4), some (.int l5), some (.int l6), some (.int l7), none, none] [] w := by
  refine (bu (ls'' := [some (.ref l0), none, none, some (.ref l3), some (.ref l4), some (.int l5), some (.int l6), some (.int l7), some (.int l8), some (.int s0)]) (st' := []) bf180_163 bf180_165 rfl rfl).trans ?_
  refine (bu (ls'' := [some (.ref l0), none, none, some (.ref l3), some (.ref l4), some (.int l5), some (.int l6), some (.int l7), some (.int l8), some (.int s0)]) (st' := [.int l8]) bf180_165 bf180_167 rfl rfl).trans ?_
  refine (bu (ls'' := [some (.ref l0), none, none, some (.ref l3), some (.ref l4), some (.int l5), some (.int l6), some (.int l7), some (.int l8), some (.int s0)]) (st' := [.int s0, .int l8]) bf180_167 bf180_169 rfl rfl).trans ?_
  exact bic bf180_169 rfl bf180_175 bf180_172 rfl rfl rfl
theorem bk180_175 {w : am_Wd} {l0 : Nat} {l3 : Nat} {l4 : Nat} {l5 : Int32} {l6 : Int32} {l7 : Int32} {l8 : Int32} {l9 : Int32} : am_run 180 175 [some (.ref l0), none, none, some (.ref l3), some (.ref l4), some (.int l5), some (.int l6), some (.int l7), some (.int l8), some (.int l9)] [] w = if l8 = nI 0 then am_run 180 198 [some (.ref l0), none, none, some (.ref l3), some (.ref l4), some (.int l5), some (.int l6), some (.int l7), some (.int l8), some (.int l9)] [] w else am_run 180 180 [some (.ref l0), none, none, some (.ref l3), some (.ref l4), some (.int l5), some (.int l6), some (.int l7), some (.int l8), some (.int l9)] [] w := by
  refine (bu (ls'' := [some (.ref l0), none, none, some (.ref l3), some (.ref l4), some (.int l5), some (.int l6), some (.int l7), some (.int l8), some (.int l9)]) (st' := [.int l8]) bf180_175 bf180_177 rfl rfl).trans ?_
  exact bifc bf180_177 rfl bf180_198 bf180_180 rfl rfl rfl
theorem bk180_172 {w : am_Wd} {l0 : Nat} {l3 : Nat} {l4 : Nat} {l5 : Int32} {l6 : Int32} {l7 : Int32} : am_run 180 172 [some (.ref l0), none, none, some (.ref l3), some (.ref l4), some (.int l5), some (.int l6), some (.int l7), none, none] [] w = am_run 180 232 [some (.ref l0), none, none, some (.ref l3), some (.ref l4), some (.int l5), some (.int l6), some (.int l7), none, none] [] w := by
  refine (bu (ls'' := [some (.ref l0), none, none, some (.ref l3), some (.ref l4), some (.int l5), some (.int l6), some (.int l7), none, none]) (st' := []) bf180_172 bf180_232 rfl rfl).trans ?_
  rfl
theorem bk180_198 {w : am_Wd} {l0 : Nat} {l3 : Nat} {l4 : Nat} {l5 : Int32} {l6 : Int32} {l7 : Int32} {l8 : Int32} {l9 : Int32} : am_run 180 198 [some (.ref l0), none, none, some (.ref l3), some (.ref l4), some (.int l5), some (.int l6), some (.int l7), some (.int l8), some (.int l9)] [] w = (am_gf w l3 10 4).bind fun v => am_run 180 202 [some (.ref l0), none, none, some (.ref l3), some (.ref l4), some (.int l5), some (.int l6), some (.int l7), some (.int l8), some (.int l9)] (v :: []) w := by
  refine (bu (ls'' := [some (.ref l0), none, none, some (.ref l3), some (.ref l4), some (.int l5), some (.int l6), some (.int l7), some (.int l8), some (.int l9)]) (st' := [.ref l3]) bf180_198 bf180_199 rfl rfl).trans ?_
  exact bh bf180_199 bf180_202 rfl (fun _ _ => am_ge_rf w) rfl
theorem bk180_180 {w : am_Wd} {l0 : Nat} {l3 : Nat} {l4 : Nat} {l5 : Int32} {l6 : Int32} {l7 : Int32} {l8 : Int32} {l9 : Int32} : am_run 180 180 [some (.ref l0), none, none, some (.ref l3), some (.ref l4), some (.int l5), some (.int l6), some (.int l7), some (.int l8), some (.int l9)] [] w = if l9 = nI 0 then am_run 180 198 [some (.ref l0), none, none, some (.ref l3), some (.ref l4), some (.int l5), some (.int l6), some (.int l7), some (.int l8), some (.int l9)] [] w else am_run 180 185 [some (.ref l0), none, none, some (.ref l3), some (.ref l4), some (.int l5), some (.int l6), some (.int l7), none, none] [] w := by
  refine (bu (ls'' := [some (.ref l0), none, none, some (.ref l3), some (.ref l4), some (.int l5), some (.int l6), some (.int l7), some (.int l8), some (.int l9)]) (st' := [.int l9]) bf180_180 bf180_182 rfl rfl).trans ?_
  exact bifc bf180_182 rfl bf180_198 bf180_185 rfl rfl rfl
theorem bk180_232 {w : am_Wd} {l0 : Nat} {l3 : Nat} {l4 : Nat} {l5 : Int32} {l6 : Int32} {l7 : Int32} : am_run 180 232 [some (.ref l0), none, none, some (.ref l3), some (.ref l4), some (.int l5), some (.int l6), some (.int l7), none, none] [] w = am_run 180 134 [some (.ref l0), none, none, some (.ref l3), some (.ref l4), some (.int l5), some (.int l6), some (.int (l7 + (nI 1))), none, none] [] w := by
  refine (bu (ls'' := [some (.ref l0), none, none, some (.ref l3), some (.ref l4), some (.int l5), some (.int l6), some (.int (l7 + (nI 1))), none, none]) (st' := []) bf180_232 bf180_235 rfl rfl).trans ?_
  refine (bu (ls'' := [some (.ref l0), none, none, some (.ref l3), some (.ref l4), some (.int l5), some (.int l6), some (.int (l7 + (nI 1))), none, none]) (st' := []) bf180_235 bf180_134 rfl rfl).trans ?_
  rfl
theorem bk180_202 {w : am_Wd} {l0 : Nat} {l3 : Nat} {l4 : Nat} {l5 : Int32} {l6 : Int32} {l7 : Int32} {l8 : Int32} {l9 : Int32} {s0 : Nat} : am_run 180 202 [some (.ref l0), none, none, some (.ref l3), some (.ref l4), some (.int l5), some (.int l6), some (.int l7), some (.int l8), some (.int l9)] [.ref s0] w = (am_rq w s0 l6).bind fun v => am_run 180 205 [some (.ref l0), none, none, some (.ref l3), some (.ref l4), some (.int l5), some (.int l6), some (.int l7), some (.int l8), some (.int l9)] (v :: []) w := by
  refine (bu (ls'' := [some (.ref l0), none, none, some (.ref l3), some (.ref l4), some (.int l5), some (.int l6), some (.int l7), some (.int l8), some (.int l9)]) (st' := [.int l6, .ref s0]) bf180_202 bf180_204 rfl rfl).trans ?_
  exact bh bf180_204 bf180_205 rfl (fun _ _ => am_ge_rf w) rfl
theorem bk180_185 {w : am_Wd} {l0 : Nat} {l3 : Nat} {l4 : Nat} {l5 : Int32} {l6 : Int32} {l7 : Int32} : am_run 180 185 [some (.ref l0), none, none, some (.ref l3), some (.ref l4), some (.int l5), some (.int l6), some (.int l7), none, none] [] w = (am_gf w l0 11 5).bind fun v => am_run 180 190 [some (.ref l0), none, none, some (.ref l3), some (.ref l4), some (.int l5), some (.int l6), some (.int l7), none, none] (v :: [.ref l0]) w := by
  refine (bu (ls'' := [some (.ref l0), none, none, some (.ref l3), some (.ref l4), some (.int l5), some (.int l6), some (.int l7), none, none]) (st' := [.ref l0]) bf180_185 bf180_186 rfl rfl).trans ?_
  refine (bu (ls'' := [some (.ref l0), none, none, some (.ref l3), some (.ref l4), some (.int l5), some (.int l6), some (.int l7), none, none]) (st' := [.ref l0, .ref l0]) bf180_186 bf180_187 rfl rfl).trans ?_
  exact bh bf180_187 bf180_190 rfl (fun _ _ => am_ge_rf w) rfl
theorem bk180_205 {w : am_Wd} {l0 : Nat} {l3 : Nat} {l4 : Nat} {l5 : Int32} {l6 : Int32} {l7 : Int32} {l8 : Int32} {l9 : Int32} {s0 : Nat} : am_run 180 205 [some (.ref l0), none, none, some (.ref l3), some (.ref l4), some (.int l5), some (.int l6), some (.int l7), some (.int l8), some (.int l9)] [.ref s0] w = (am_wi 0 w s0 l7 (l8 + l9)).bind fun w' => am_run 180 213 [some (.ref l0), none, none, some (.ref l3), some (.ref l4), some (.int l5), some (.int l6), some (.int l7), some (.int l8), some (.int l9)] [] w' := by
  refine (bu (ls'' := [some (.ref l0), none, none, some (.ref l3), some (.ref l4), some (.int l5), some (.int l6), some (.int l7), some (.int l8), some (.int l9)]) (st' := [.int l7, .ref s0]) bf180_205 bf180_207 rfl rfl).trans ?_
  refine (bu (ls'' := [some (.ref l0), none, none, some (.ref l3), some (.ref l4), some (.int l5), some (.int l6), some (.int l7), some (.int l8), some (.int l9)]) (st' := [.int l8, .int l7, .ref s0]) bf180_207 bf180_209 rfl rfl).trans ?_
  refine (bu (ls'' := [some (.ref l0), none, none, some (.ref l3), some (.ref l4), some (.int l5), some (.int l6), some (.int l7), some (.int l8), some (.int l9)]) (st' := [.int l9, .int l8, .int l7, .ref s0]) bf180_209 bf180_211 rfl rfl).trans ?_
  refine (bu (ls'' := [some (.ref l0), none, none, some (.ref l3), some (.ref l4), some (.int l5), some (.int l6), some (.int l7), some (.int l8), some (.int l9)]) (st' := [.int (l8 + l9), .int l7, .ref s0]) bf180_211 bf180_212 rfl rfl).trans ?_
  exact bh bf180_212 bf180_213 rfl (bge_wi) rfl
theorem bk180_190 {w : am_Wd} {l0 : Nat} {l3 : Nat} {l4 : Nat} {l5 : Int32} {l6 : Int32} {l7 : Int32} {s0 : Int32} {s1 : Nat} : am_run 180 190 [some (.ref l0), none, none, some (.ref l3), some (.ref l4), some (.int l5), some (.int l6), some (.int l7), none, none] [.int s0, .ref s1] w = (am_pf w s1 11 5 (.int (s0 + (nI 1)))).bind fun w' => am_run 180 195 [some (.ref l0), none, none, some (.ref l3), some (.ref l4), some (.int l5), some (.int l6), some (.int l7), none, none] [] w' := by
  refine (bu (ls'' := [some (.ref l0), none, none, some (.ref l3), some (.ref l4), some (.int l5), some (.int l6), some (.int l7), none, none]) (st' := [.int (nI 1), .int s0, .ref s1]) bf180_190 bf180_191 rfl rfl).trans ?_
  refine (bu (ls'' := [some (.ref l0), none, none, some (.ref l3), some (.ref l4), some (.int l5), some (.int l6), some (.int l7), none, none]) (st' := [.int (s0 + (nI 1)), .ref s1]) bf180_191 bf180_192 rfl rfl).trans ?_
  exact bh bf180_192 bf180_195 rfl (bge_pf) rfl
theorem bk180_213 {w : am_Wd} {l0 : Nat} {l3 : Nat} {l4 : Nat} {l5 : Int32} {l6 : Int32} {l7 : Int32} {l8 : Int32} {l9 : Int32} : am_run 180 213 [some (.ref l0), none, none, some (.ref l3), some (.ref l4), some (.int l5), some (.int l6), some (.int l7), some (.int l8), some (.int l9)] [] w = (am_gf w l4 10 4).bind fun v => am_run 180 218 [some (.ref l0), none, none, some (.ref l3), some (.ref l4), some (.int l5), some (.int l6), some (.int l7), some (.int l8), some (.int l9)] (v :: []) w := by
  refine (bu (ls'' := [some (.ref l0), none, none, some (.ref l3), some (.ref l4), some (.int l5), some (.int l6), some (.int l7), some (.int l8), some (.int l9)]) (st' := [.ref l4]) bf180_213 bf180_215 rfl rfl).trans ?_
  exact bh bf180_215 bf180_218 rfl (fun _ _ => am_ge_rf w) rfl
theorem bk180_195 {w : am_Wd} {l0 : Nat} {l3 : Nat} {l4 : Nat} {l5 : Int32} {l6 : Int32} {l7 : Int32} : am_run 180 195 [some (.ref l0), none, none, some (.ref l3), some (.ref l4), some (.int l5), some (.int l6), some (.int l7), none, none] [] w = am_run 180 232 [some (.ref l0), none, none, some (.ref l3), some (.ref l4), some (.int l5), some (.int l6), some (.int l7), none, none] [] w := by
  refine (bu (ls'' := [some (.ref l0), none, none, some (.ref l3), some (.ref l4), some (.int l5), some (.int l6), some (.int l7), none, none]) (st' := []) bf180_195 bf180_232 rfl rfl).trans ?_
  rfl
theorem bk180_218 {w : am_Wd} {l0 : Nat} {l3 : Nat} {l4 : Nat} {l5 : Int32} {l6 : Int32} {l7 : Int32} {l8 : Int32} {l9 : Int32} {s0 : Nat} : am_run 180 218 [some (.ref l0), none, none, some (.ref l3), some (.ref l4), some (.int l5), some (.int l6), some (.int l7), some (.int l8), some (.int l9)] [.ref s0] w = (am_rq w s0 l6).bind fun v => am_run 180 221 [some (.ref l0), none, none, some (.ref l3), some (.ref l4), some (.int l5), some (.int l6), some (.int l7), some (.int l8), some (.int l9)] (v :: []) w := by
  refine (bu (ls'' := [some (.ref l0), none, none, some (.ref l3), some (.ref l4), some (.int l5), some (.int l6), some (.int l7), some (.int l8), some (.int l9)]) (st' := [.int l6, .ref s0]) bf180_218 bf180_220 rfl rfl).trans ?_
  exact bh bf180_220 bf180_221 rfl (fun _ _ => am_ge_rf w) rfl
theorem bk180_221 {w : am_Wd} {l0 : Nat} {l3 : Nat} {l4 : Nat} {l5 : Int32} {l6 : Int32} {l7 : Int32} {l8 : Int32} {l9 : Int32} {s0 : Nat} : am_run 180 221 [some (.ref l0), none, none, some (.ref l3), some (.ref l4), some (.int l5), some (.int l6), some (.int l7), some (.int l8), some (.int l9)] [.ref s0] w = (am_wi 0 w s0 l7 (l8 + l9)).bind fun w' => am_run 180 229 [some (.ref l0), none, none, some (.ref l3), some (.ref l4), some (.int l5), some (.int l6), some (.int l7), none, none] [] w' := by
  refine (bu (ls'' := [some (.ref l0), none, none, some (.ref l3), some (.ref l4), some (.int l5), some (.int l6), some (.int l7), some (.int l8), some (.int l9)]) (st' := [.int l7, .ref s0]) bf180_221 bf180_223 rfl rfl).trans ?_
  refine (bu (ls'' := [some (.ref l0), none, none, some (.ref l3), some (.ref l4), some (.int l5), some (.int l6), some (.int l7), none, some (.int l9)]) (st' := [.int l8, .int l7, .ref s0]) bf180_223 bf180_225 rfl rfl).trans ?_
  refine (bu (ls'' := [some (.ref l0), none, none, some (.ref l3), some (.ref l4), some (.int l5), some (.int l6), some (.int l7), none, none]) (st' := [.int l9, .int l8, .int l7, .ref s0]) bf180_225 bf180_227 rfl rfl).trans ?_
  refine (bu (ls'' := [some (.ref l0), none, none, some (.ref l3), some (.ref l4), some (.int l5), some (.int l6), some (.int l7), none, none]) (st' := [.int (l8 + l9), .int l7, .ref s0]) bf180_227 bf180_228 rfl rfl).trans ?_
  exact bh bf180_228 bf180_229 rfl (bge_wi) rfl
theorem bk180_229 {w : am_Wd} {l0 : Nat} {l3 : Nat} {l4 : Nat} {l5 : Int32} {l6 : Int32} {l7 : Int32} : am_run 180 229 [some (.ref l0), none, none, some (.ref l3), some (.ref l4), some (.int l5), some (.int l6), some (.int l7), none, none] [] w = am_run 180 232 [some (.ref l0), none, none, some (.ref l3), some (.ref l4), some (.int (l5 + (nI 1))), some (.int l6), some (.int l7), none, none] [] w := by
  refine (bu (ls'' := [some (.ref l0), none, none, some (.ref l3), some (.ref l4), some (.int (l5 + (nI 1))), some (.int l6), some (.int l7), none, none]) (st' := []) bf180_229 bf180_232 rfl rfl).trans ?_
  rfl
theorem bf181_0 : am_fetch (am_mth 181) 0 = some (.iload_n 1, 1, [], [4, 5]) := by decide +kernel
theorem bf181_1 : am_fetch (am_mth 181) 1 = some (.iload_n 2, 1, [], [4, 5]) := by decide +kernel
theorem bf181_2 : am_fetch (am_mth 181) 2 = some (.invokestatic 50, 3, [0, 100, 2, 1259, 1260, 48], [4, 5]) := by decide +kernel
theorem bf181_5 : am_fetch (am_mth 181) 5 = some (.iconst (-1), 1, [], [4, 5]) := by decide +kernel
theorem bf181_6 : am_fetch (am_mth 181) 6 = some (.if_icmp .ne 14, 3, [], [4, 5]) := by decide +kernel
theorem bf181_9 : am_fetch (am_mth 181) 9 = some (.iload_n 3, 1, [], [0, 1, 2, 4, 5]) := by decide +kernel
theorem bf181_10 : am_fetch (am_mth 181) 10 = some (.iconst 2, 1, [], [0, 1, 2, 3, 4, 5]) := by decide +kernel
theorem bf181_11 : am_fetch (am_mth 181) 11 = some (.if_icmp .ge 7, 3, [], [0, 1, 2, 3, 4, 5]) := by decide +kernel
theorem bf181_14 : am_fetch (am_mth 181) 14 = some (.iconst 1, 1, [], [0, 1, 2, 3, 4, 5]) := by decide +kernel
theorem bf181_15 : am_fetch (am_mth 181) 15 = some (.goto 4, 3, [], [0, 1, 2, 3, 4, 5]) := by decide +kernel
theorem bf181_18 : am_fetch (am_mth 181) 18 = some (.iconst 0, 1, [], [0, 1, 2, 3, 4, 5]) := by decide +kernel
theorem bf181_19 : am_fetch (am_mth 181) 19 = some (.ireturn, 1, [0], [0, 1, 2, 3, 4, 5]) := by decide +kernel
theorem bf181_20 : am_fetch (am_mth 181) 20 = some (.iload_n 1, 1, [], [4, 5]) := by decide +kernel
theorem bf181_21 : am_fetch (am_mth 181) 21 = some (.iload_n 2, 1, [], [1, 4, 5]) := by decide +kernel
theorem bf181_22 : am_fetch (am_mth 181) 22 = some (.invokestatic 61, 3, [0, 142, 2, 1263, 1264, 48], [1, 4, 5]) := by decide +kernel
theorem bf181_25 : am_fetch (am_mth 181) 25 = some (.istore 4, 2, [], [1, 4, 5]) := by decide +kernel
theorem bf181_27 : am_fetch (am_mth 181) 27 = some (.iconst 3, 1, [], [1, 5]) := by decide +kernel
theorem bf181_28 : am_fetch (am_mth 181) 28 = some (.newarray .int, 2, [0, 108], [1, 5]) := by decide +kernel
theorem bf181_30 : am_fetch (am_mth 181) 30 = some (.dup, 1, [], [1, 5]) := by decide +kernel
theorem bf181_31 : am_fetch (am_mth 181) 31 = some (.iconst 0, 1, [], [1, 5]) := by decide +kernel
theorem bf181_32 : am_fetch (am_mth 181) 32 = some (.aload_n 0, 1, [], [1, 5]) := by decide +kernel
theorem bf181_33 : am_fetch (am_mth 181) 33 = some (.getfield 15, 3, [0, 11, 7, 1204], [1, 5]) := by decide +kernel
theorem bf181_36 : am_fetch (am_mth 181) 36 = some (.iload 4, 2, [], [1, 5]) := by decide +kernel
theorem bf181_38 : am_fetch (am_mth 181) 38 = some (.aaload, 1, [], [1, 5]) := by decide +kernel
theorem bf181_39 : am_fetch (am_mth 181) 39 = some (.iload_n 2, 1, [], [1, 5]) := by decide +kernel
theorem bf181_40 : am_fetch (am_mth 181) 40 = some (.invokestatic 64, 3, [0, 41, 1, 1266, 1267, 48], [1, 5]) := by decide +kernel
theorem bf181_43 : am_fetch (am_mth 181) 43 = some (.iaload, 1, [], [1, 5]) := by decide +kernel
theorem bf181_44 : am_fetch (am_mth 181) 44 = some (.iastore, 1, [], [1, 5]) := by decide +kernel
theorem bf181_45 : am_fetch (am_mth 181) 45 = some (.dup, 1, [], [1, 5]) := by decide +kernel
theorem bf181_46 : am_fetch (am_mth 181) 46 = some (.iconst 1, 1, [], [1, 5]) := by decide +kernel
theorem bf181_47 : am_fetch (am_mth 181) 47 = some (.aload_n 0, 1, [], [1, 5]) := by decide +kernel
theorem bf181_48 : am_fetch (am_mth 181) 48 = some (.iload 4, 2, [], [1, 5]) := by decide +kernel
theorem bf181_50 : am_fetch (am_mth 181) 50 = some (.iload_n 2, 1, [], [1, 5]) := by decide +kernel
theorem bf181_51 : am_fetch (am_mth 181) 51 = some (.invokestatic 64, 3, [0, 41, 1, 1266, 1267, 48], [1, 5]) := by decide +kernel
theorem bf181_54 : am_fetch (am_mth 181) 54 = some (.invokevirtual 68, 3, [0, 101, 2, 11, 1442, 1444, 31, 48], [1, 5]) := by decide +kernel
theorem bf181_57 : am_fetch (am_mth 181) 57 = some (.ifCond .eq 7, 3, [], [1, 5]) := by decide +kernel
theorem bf181_60 : am_fetch (am_mth 181) 60 = some (.iconst 1, 1, [], [1, 5]) := by decide +kernel
theorem bf181_61 : am_fetch (am_mth 181) 61 = some (.goto 4, 3, [], [1, 5]) := by decide +kernel
theorem bf181_64 : am_fetch (am_mth 181) 64 = some (.iconst 0, 1, [], [1, 5]) := by decide +kernel
theorem bf181_65 : am_fetch (am_mth 181) 65 = some (.iastore, 1, [], [1, 5]) := by decide +kernel
theorem bf181_66 : am_fetch (am_mth 181) 66 = some (.dup, 1, [], [1, 5]) := by decide +kernel
theorem bf181_67 : am_fetch (am_mth 181) 67 = some (.iconst 2, 1, [], [1, 5]) := by decide +kernel
theorem bf181_68 : am_fetch (am_mth 181) 68 = some (.aload_n 0, 1, [], [1, 5]) := by decide +kernel
theorem bf181_69 : am_fetch (am_mth 181) 69 = some (.getfield 18, 3, [0, 11, 8, 1205], [0, 1, 5]) := by decide +kernel
theorem bf181_72 : am_fetch (am_mth 181) 72 = some (.iload 4, 2, [], [0, 1, 5]) := by decide +kernel
theorem bf181_74 : am_fetch (am_mth 181) 74 = some (.aaload, 1, [], [0, 1, 4, 5]) := by decide +kernel
theorem bf181_75 : am_fetch (am_mth 181) 75 = some (.iload_n 2, 1, [], [0, 1, 4, 5]) := by decide +kernel
theorem bf181_76 : am_fetch (am_mth 181) 76 = some (.invokestatic 64, 3, [0, 41, 1, 1266, 1267, 48], [0, 1, 2, 4, 5]) := by decide +kernel
theorem bf181_79 : am_fetch (am_mth 181) 79 = some (.iaload, 1, [], [0, 1, 2, 4, 5]) := by decide +kernel
theorem bf181_80 : am_fetch (am_mth 181) 80 = some (.iastore, 1, [], [0, 1, 2, 4, 5]) := by decide +kernel
theorem bf181_81 : am_fetch (am_mth 181) 81 = some (.astore 5, 2, [], [0, 1, 2, 4, 5]) := by decide +kernel
theorem bf181_83 : am_fetch (am_mth 181) 83 = some (.aload 5, 2, [], [0, 1, 2, 4]) := by decide +kernel
theorem bf181_85 : am_fetch (am_mth 181) 85 = some (.iload_n 3, 1, [], [0, 1, 2, 4, 5]) := by decide +kernel
theorem bf181_86 : am_fetch (am_mth 181) 86 = some (.iaload, 1, [], [0, 1, 2, 3, 4, 5]) := by decide +kernel
theorem bf181_87 : am_fetch (am_mth 181) 87 = some (.ireturn, 1, [0], [0, 1, 2, 3, 4, 5]) := by decide +kernel
theorem bk181_0 {w : am_Wd} {l0 : Nat} {l1 : Int32} {l2 : Int32} {l3 : Int32} : am_run 181 0 [some (.ref l0), some (.int l1), some (.int l2), some (.int l3), none, none] [] w = (am_x 100 [.int l1, .int l2] w).bind fun r => bct r fun v w' => am_run 181 5 [some (.ref l0), some (.int l1), some (.int l2), some (.int l3), none, none] (v.toList ++ []) w' := by
  refine (bu (ls'' := [some (.ref l0), some (.int l1), some (.int l2), some (.int l3), none, none]) (st' := [.int l1]) bf181_0 bf181_1 rfl rfl).trans ?_
  refine (bu (ls'' := [some (.ref l0), some (.int l1), some (.int l2), some (.int l3), none, none]) (st' := [.int l2, .int l1]) bf181_1 bf181_2 rfl rfl).trans ?_
  exact bkS bf181_2 bf181_5 rfl (by decide +kernel) (Nat.le_of_ble_eq_true rfl) rfl (bhd rfl)
theorem bk181_5 {w : am_Wd} {l0 : Nat} {l1 : Int32} {l2 : Int32} {l3 : Int32} {s0 : Int32} : am_run 181 5 [some (.ref l0), some (.int l1), some (.int l2), some (.int l3), none, none] [.int s0] w = if ¬ s0 = (-1 : Int32) then am_run 181 20 [some (.ref l0), some (.int l1), some (.int l2), some (.int l3), none, none] [] w else am_run 181 9 [none, none, none, some (.int l3), none, none] [] w := by
  refine (bu (ls'' := [some (.ref l0), some (.int l1), some (.int l2), some (.int l3), none, none]) (st' := [.int (-1 : Int32), .int s0]) bf181_5 bf181_6 rfl rfl).trans ?_
  exact bic bf181_6 rfl bf181_20 bf181_9 rfl rfl rfl
theorem bk181_20 {w : am_Wd} {l0 : Nat} {l1 : Int32} {l2 : Int32} {l3 : Int32} : am_run 181 20 [some (.ref l0), some (.int l1), some (.int l2), some (.int l3), none, none] [] w = (am_x 142 [.int l1, .int l2] w).bind fun r => bct r fun v w' => am_run 181 25 [some (.ref l0), none, some (.int l2), some (.int l3), none, none] (v.toList ++ []) w' := by
  refine (bu (ls'' := [some (.ref l0), none, some (.int l2), some (.int l3), none, none]) (st' := [.int l1]) bf181_20 bf181_21 rfl rfl).trans ?_
  refine (bu (ls'' := [some (.ref l0), none, some (.int l2), some (.int l3), none, none]) (st' := [.int l2, .int l1]) bf181_21 bf181_22 rfl rfl).trans ?_
  exact bkS bf181_22 bf181_25 rfl (by decide +kernel) (Nat.le_of_ble_eq_true rfl) rfl (bhd rfl)
theorem bk181_9 {w : am_Wd} {l3 : Int32} : am_run 181 9 [none, none, none, some (.int l3), none, none] [] w = if (nI 2) ≤ l3 then am_run 181 18 [none, none, none, none, none, none] [] w else am_run 181 14 [none, none, none, none, none, none] [] w := by
  refine (bu (ls'' := [none, none, none, none, none, none]) (st' := [.int l3]) bf181_9 bf181_10 rfl rfl).trans ?_
  refine (bu (ls'' := [none, none, none, none, none, none]) (st' := [.int (nI 2), .int l3]) bf181_10 bf181_11 rfl rfl).trans ?_
  exact bic bf181_11 rfl bf181_18 bf181_14 rfl rfl rfl
theorem bk181_25 {w : am_Wd} {l0 : Nat} {l2 : Int32} {l3 : Int32} {s0 : Int32} : am_run 181 25 [some (.ref l0), none, some (.int l2), some (.int l3), none, none] [.int s0] w = (am_na w 0 (nI 3)).bind fun w' => am_run 181 30 [some (.ref l0), none, some (.int l2), some (.int l3), some (.int s0), none] (.ref w.2.1 :: []) w' := by
  refine (bu (ls'' := [some (.ref l0), none, some (.int l2), some (.int l3), some (.int s0), none]) (st' := []) bf181_25 bf181_27 rfl rfl).trans ?_
  refine (bu (ls'' := [some (.ref l0), none, some (.int l2), some (.int l3), some (.int s0), none]) (st' := [.int (nI 3)]) bf181_27 bf181_28 rfl rfl).trans ?_
  exact bh bf181_28 bf181_30 rfl (bge_na) rfl
theorem bk181_18 {w : am_Wd}  : am_run 181 18 [none, none, none, none, none, none] [] w = am_run 181 19 [none, none, none, none, none, none] [.int (nI 0)] w := by
  refine (bu (ls'' := [none, none, none, none, none, none]) (st' := [.int (nI 0)]) bf181_18 bf181_19 rfl rfl).trans ?_
  rfl
theorem bk181_14 {w : am_Wd}  : am_run 181 14 [none, none, none, none, none, none] [] w = am_run 181 19 [none, none, none, none, none, none] [.int (nI 1)] w := by
  refine (bu (ls'' := [none, none, none, none, none, none]) (st' := [.int (nI 1)]) bf181_14 bf181_15 rfl rfl).trans ?_
  refine (bu (ls'' := [none, none, none, none, none, none]) (st' := [.int (nI 1)]) bf181_15 bf181_19 rfl rfl).trans ?_
  rfl
theorem bk181_30 {w : am_Wd} {l0 : Nat} {l2 : Int32} {l3 : Int32} {l4 : Int32} {s0 : Nat} : am_run 181 30 [some (.ref l0), none, some (.int l2), some (.int l3), some (.int l4), none] [.ref s0] w = (am_gf w l0 11 7).bind fun v => am_run 181 36 [some (.ref l0), none, some (.int l2), some (.int l3), some (.int l4), none] (v :: [.int (nI 0), .ref s0, .ref s0]) w := by
  refine (bu (ls'' := [some (.ref l0), none, some (.int l2), some (.int l3), some (.int l4), none]) (st' := [.ref s0, .ref s0]) bf181_30 bf181_31 rfl rfl).trans ?_
  refine (bu (ls'' := [some (.ref l0), none, some (.int l2), some (.int l3), some (.int l4), none]) (st' := [.int (nI 0), .ref s0, .ref s0]) bf181_31 bf181_32 rfl rfl).trans ?_
  refine (bu (ls'' := [some (.ref l0), none, some (.int l2), some (.int l3), some (.int l4), none]) (st' := [.ref l0, .int (nI 0), .ref s0, .ref s0]) bf181_32 bf181_33 rfl rfl).trans ?_
  exact bh bf181_33 bf181_36 rfl (fun _ _ => am_ge_rf w) rfl
theorem bk181_19 {w : am_Wd} {s0 : Int32} : am_run 181 19 [none, none, none, none, none, none] [.int s0] w = some (.inl (some (.int s0)), w) := by
  exact am_e2 bf181_19 rfl (am_ge_rf w)
theorem bk181_36 {w : am_Wd} {l0 : Nat} {l2 : Int32} {l3 : Int32} {l4 : Int32} {s0 : Nat} {s1 : Int32} {s2 : Nat} {s3 : Nat} : am_run 181 36 [some (.ref l0), none, some (.int l2), some (.int l3), some (.int l4), none] [.ref s0, .int s1, .ref s2, .ref s3] w = (am_rq w s0 l4).bind fun v => am_run 181 39 [some (.ref l0), none, some (.int l2), some (.int l3), some (.int l4), none] (v :: [.int s1, .ref s2, .ref s3]) w := by
  refine (bu (ls'' := [some (.ref l0), none, some (.int l2), some (.int l3), some (.int l4), none]) (st' := [.int l4, .ref s0, .int s1, .ref s2, .ref s3]) bf181_36 bf181_38 rfl rfl).trans ?_
  exact bh bf181_38 bf181_39 rfl (fun _ _ => am_ge_rf w) rfl
theorem bk181_39 {w : am_Wd} {l0 : Nat} {l2 : Int32} {l3 : Int32} {l4 : Int32} {s0 : Nat} {s1 : Int32} {s2 : Nat} {s3 : Nat} : am_run 181 39 [some (.ref l0), none, some (.int l2), some (.int l3), some (.int l4), none] [.ref s0, .int s1, .ref s2, .ref s3] w = (am_x 41 [.int l2] w).bind fun r => bct r fun v w' => am_run 181 43 [some (.ref l0), none, some (.int l2), some (.int l3), some (.int l4), none] (v.toList ++ [.ref s0, .int s1, .ref s2, .ref s3]) w' := by
  refine (bu (ls'' := [some (.ref l0), none, some (.int l2), some (.int l3), some (.int l4), none]) (st' := [.int l2, .ref s0, .int s1, .ref s2, .ref s3]) bf181_39 bf181_40 rfl rfl).trans ?_
  exact bkS bf181_40 bf181_43 rfl (by decide +kernel) (Nat.le_of_ble_eq_true rfl) rfl (bhd rfl)
theorem bk181_43 {w : am_Wd} {l0 : Nat} {l2 : Int32} {l3 : Int32} {l4 : Int32} {s0 : Int32} {s1 : Nat} {s2 : Int32} {s3 : Nat} {s4 : Nat} : am_run 181 43 [some (.ref l0), none, some (.int l2), some (.int l3), some (.int l4), none] [.int s0, .ref s1, .int s2, .ref s3, .ref s4] w = (am_ri 0 w s1 s0).bind fun v => am_run 181 44 [some (.ref l0), none, some (.int l2), some (.int l3), some (.int l4), none] (.int v :: [.int s2, .ref s3, .ref s4]) w := by
  exact bh bf181_43 bf181_44 rfl (fun _ _ => am_ge_rf w) rfl
theorem bk181_44 {w : am_Wd} {l0 : Nat} {l2 : Int32} {l3 : Int32} {l4 : Int32} {s0 : Int32} {s1 : Int32} {s2 : Nat} {s3 : Nat} : am_run 181 44 [some (.ref l0), none, some (.int l2), some (.int l3), some (.int l4), none] [.int s0, .int s1, .ref s2, .ref s3] w = (am_wi 0 w s2 s1 s0).bind fun w' => am_run 181 45 [some (.ref l0), none, some (.int l2), some (.int l3), some (.int l4), none] [.ref s3] w' := by
  exact bh bf181_44 bf181_45 rfl (bge_wi) rfl
theorem bk181_45 {w : am_Wd} {l0 : Nat} {l2 : Int32} {l3 : Int32} {l4 : Int32} {s0 : Nat} : am_run 181 45 [some (.ref l0), none, some (.int l2), some (.int l3), some (.int l4), none] [.ref s0] w = (am_x 41 [.int l2] w).bind fun r => bct r fun v w' => am_run 181 54 [some (.ref l0), none, some (.int l2), some (.int l3), some (.int l4), none] (v.toList ++ [.int l4, .ref l0, .int (nI 1), .ref s0, .ref s0]) w' := by
  refine (bu (ls'' := [some (.ref l0), none, some (.int l2), some (.int l3), some (.int l4), none]) (st' := [.ref s0, .ref s0]) bf181_45 bf181_46 rfl rfl).trans ?_
  refine (bu (ls'' := [some (.ref l0), none, some (.int l2), some (.int l3), some (.int l4), none]) (st' := [.int (nI 1), .ref s0, .ref s0]) bf181_46 bf181_47 rfl rfl).trans ?_
  refine (bu (ls'' := [some (.ref l0), none, some (.int l2), some (.int l3), some (.int l4), none]) (st' := [.ref l0, .int (nI 1), .ref s0, .ref s0]) bf181_47 bf181_48 rfl rfl).trans ?_
  refine (bu (ls'' := [some (.ref l0), none, some (.int l2), some (.int l3), some (.int l4), none]) (st' := [.int l4, .ref l0, .int (nI 1), .ref s0, .ref s0]) bf181_48 bf181_50 rfl rfl).trans ?_
  refine (bu (ls'' := [some (.ref l0), none, some (.int l2), some (.int l3), some (.int l4), none]) (st' := [.int l2, .int l4, .ref l0, .int (nI 1), .ref s0, .ref s0]) bf181_50 bf181_51 rfl rfl).trans ?_
  exact bkS bf181_51 bf181_54 rfl (by decide +kernel) (Nat.le_of_ble_eq_true rfl) rfl (bhd rfl)
theorem bk181_54 {w : am_Wd} {l0 : Nat} {l2 : Int32} {l3 : Int32} {l4 : Int32} {s0 : Int32} {s1 : Int32} {s2 : Nat} {s3 : Int32} {s4 : Nat} {s5 : Nat} : am_run 181 54 [some (.ref l0), none, some (.int l2), some (.int l3), some (.int l4), none] [.int s0, .int s1, .ref s2, .int s3, .ref s4, .ref s5] w = (am_kf w s2 11).bind fun _ => (am_x 101 [.ref s2, .int s1, .int s0] w).bind fun r => bct r fun v w' => am_run 181 57 [some (.ref l0), none, some (.int l2), some (.int l3), some (.int l4), none] (v.toList ++ [.int s3, .ref s4, .ref s5]) w' := by
  exact bkV bf181_54 bf181_57 rfl (by decide +kernel) (Nat.le_of_ble_eq_true rfl) rfl (bhd rfl)
theorem bk181_57 {w : am_Wd} {l0 : Nat} {l2 : Int32} {l3 : Int32} {l4 : Int32} {s0 : Int32} {s1 : Int32} {s2 : Nat} {s3 : Nat} : am_run 181 57 [some (.ref l0), none, some (.int l2), some (.int l3), some (.int l4), none] [.int s0, .int s1, .ref s2, .ref s3] w = if s0 = nI 0 then am_run 181 64 [some (.ref l0), none, some (.int l2), some (.int l3), some (.int l4), none] [.int s1, .ref s2, .ref s3] w else am_run 181 60 [some (.ref l0), none, some (.int l2), some (.int l3), some (.int l4), none] [.int s1, .ref s2, .ref s3] w := by
  exact bifc bf181_57 rfl bf181_64 bf181_60 rfl rfl rfl
theorem bk181_64 {w : am_Wd} {l0 : Nat} {l2 : Int32} {l3 : Int32} {l4 : Int32} {s0 : Int32} {s1 : Nat} {s2 : Nat} : am_run 181 64 [some (.ref l0), none, some (.int l2), some (.int l3), some (.int l4), none] [.int s0, .ref s1, .ref s2] w = am_run 181 65 [some (.ref l0), none, some (.int l2), some (.int l3), some (.int l4), none] [.int (nI 0), .int s0, .ref s1, .ref s2] w := by
  refine (bu (ls'' := [some (.ref l0), none, some (.int l2), some (.int l3), some (.int l4), none]) (st' := [.int (nI 0), .int s0, .ref s1, .ref s2]) bf181_64 bf181_65 rfl rfl).trans ?_
  rfl
theorem bk181_60 {w : am_Wd} {l0 : Nat} {l2 : Int32} {l3 : Int32} {l4 : Int32} {s0 : Int32} {s1 : Nat} {s2 : Nat} : am_run 181 60 [some (.ref l0), none, some (.int l2), some (.int l3), some (.int l4), none] [.int s0, .ref s1, .ref s2] w = am_run 181 65 [some (.ref l0), none, some (.int l2), some (.int l3), some (.int l4), none] [.int (nI 1), .int s0, .ref s1, .ref s2] w := by
  refine (bu (ls'' := [some (.ref l0), none, some (.int l2), some (.int l3), some (.int l4), none]) (st' := [.int (nI 1), .int s0, .ref s1, .ref s2]) bf181_60 bf181_61 rfl rfl).trans ?_
  refine (bu (ls'' := [some (.ref l0), none, some (.int l2), some (.int l3), some (.int l4), none]) (st' := [.int (nI 1), .int s0, .ref s1, .ref s2]) bf181_61 bf181_65 rfl rfl).trans ?_
  rfl
theorem bk181_65 {w : am_Wd} {l0 : Nat} {l2 : Int32} {l3 : Int32} {l4 : Int32} {s0 : Int32} {s1 : Int32} {s2 : Nat} {s3 : Nat} : am_run 181 65 [some (.ref l0), none, some (.int l2), some (.int l3), some (.int l4), none] [.int s0, .int s1, .ref s2, .ref s3] w = (am_wi 0 w s2 s1 s0).bind fun w' => am_run 181 66 [some (.ref l0), none, some (.int l2), some (.int l3), some (.int l4), none] [.ref s3] w' := by
  exact bh bf181_65 bf181_66 rfl (bge_wi) rfl
theorem bk181_66 {w : am_Wd} {l0 : Nat} {l2 : Int32} {l3 : Int32} {l4 : Int32} {s0 : Nat} : am_run 181 66 [some (.ref l0), none, some (.int l2), some (.int l3), some (.int l4), none] [.ref s0] w = (am_gf w l0 11 8).bind fun v => am_run 181 72 [none, none, some (.int l2), some (.int l3), some (.int l4), none] (v :: [.int (nI 2), .ref s0, .ref s0]) w := by
  refine (bu (ls'' := [some (.ref l0), none, some (.int l2), some (.int l3), some (.int l4), none]) (st' := [.ref s0, .ref s0]) bf181_66 bf181_67 rfl rfl).trans ?_
  refine (bu (ls'' := [some (.ref l0), none, some (.int l2), some (.int l3), some (.int l4), none]) (st' := [.int (nI 2), .ref s0, .ref s0]) bf181_67 bf181_68 rfl rfl).trans ?_
  refine (bu (ls'' := [none, none, some (.int l2), some (.int l3), some (.int l4), none]) (st' := [.ref l0, .int (nI 2), .ref s0, .ref s0]) bf181_68 bf181_69 rfl rfl).trans ?_
  exact bh bf181_69 bf181_72 rfl (fun _ _ => am_ge_rf w) rfl
theorem bk181_72 {w : am_Wd} {l2 : Int32} {l3 : Int32} {l4 : Int32} {s0 : Nat} {s1 : Int32} {s2 : Nat} {s3 : Nat} : am_run 181 72 [none, none, some (.int l2), some (.int l3), some (.int l4), none] [.ref s0, .int s1, .ref s2, .ref s3] w = (am_rq w s0 l4).bind fun v => am_run 181 75 [none, none, some (.int l2), some (.int l3), none, none] (v :: [.int s1, .ref s2, .ref s3]) w := by
  refine (bu (ls'' := [none, none, some (.int l2), some (.int l3), none, none]) (st' := [.int l4, .ref s0, .int s1, .ref s2, .ref s3]) bf181_72 bf181_74 rfl rfl).trans ?_
  exact bh bf181_74 bf181_75 rfl (fun _ _ => am_ge_rf w) rfl
theorem bk181_75 {w : am_Wd} {l2 : Int32} {l3 : Int32} {s0 : Nat} {s1 : Int32} {s2 : Nat} {s3 : Nat} : am_run 181 75 [none, none, some (.int l2), some (.int l3), none, none] [.ref s0, .int s1, .ref s2, .ref s3] w = (am_x 41 [.int l2] w).bind fun r => bct r fun v w' => am_run 181 79 [none, none, none, some (.int l3), none, none] (v.toList ++ [.ref s0, .int s1, .ref s2, .ref s3]) w' := by
  refine (bu (ls'' := [none, none, none, some (.int l3), none, none]) (st' := [.int l2, .ref s0, .int s1, .ref s2, .ref s3]) bf181_75 bf181_76 rfl rfl).trans ?_
  exact bkS bf181_76 bf181_79 rfl (by decide +kernel) (Nat.le_of_ble_eq_true rfl) rfl (bhd rfl)
theorem bk181_79 {w : am_Wd} {l3 : Int32} {s0 : Int32} {s1 : Nat} {s2 : Int32} {s3 : Nat} {s4 : Nat} : am_run 181 79 [none, none, none, some (.int l3), none, none] [.int s0, .ref s1, .int s2, .ref s3, .ref s4] w = (am_ri 0 w s1 s0).bind fun v => am_run 181 80 [none, none, none, some (.int l3), none, none] (.int v :: [.int s2, .ref s3, .ref s4]) w := by
  exact bh bf181_79 bf181_80 rfl (fun _ _ => am_ge_rf w) rfl
theorem bk181_80 {w : am_Wd} {l3 : Int32} {s0 : Int32} {s1 : Int32} {s2 : Nat} {s3 : Nat} : am_run 181 80 [none, none, none, some (.int l3), none, none] [.int s0, .int s1, .ref s2, .ref s3] w = (am_wi 0 w s2 s1 s0).bind fun w' => am_run 181 81 [none, none, none, some (.int l3), none, none] [.ref s3] w' := by
  exact bh bf181_80 bf181_81 rfl (bge_wi) rfl
theorem bk181_81 {w : am_Wd} {l3 : Int32} {s0 : Nat} : am_run 181 81 [none, none, none, some (.int l3), none, none] [.ref s0] w = (am_ri 0 w s0 l3).bind fun v => am_run 181 87 [none, none, none, none, none, none] (.int v :: []) w := by
  refine (bu (ls'' := [none, none, none, some (.int l3), none, some (.ref s0)]) (st' := []) bf181_81 bf181_83 rfl rfl).trans ?_
  refine (bu (ls'' := [none, none, none, some (.int l3), none, none]) (st' := [.ref s0]) bf181_83 bf181_85 rfl rfl).trans ?_
  refine (bu (ls'' := [none, none, none, none, none, none]) (st' := [.int l3, .ref s0]) bf181_85 bf181_86 rfl rfl).trans ?_
  exact bh bf181_86 bf181_87 rfl (fun _ _ => am_ge_rf w) rfl
theorem bk181_87 {w : am_Wd} {s0 : Int32} : am_run 181 87 [none, none, none, none, none, none] [.int s0] w = some (.inl (some (.int s0)), w) := by
  exact am_e2 bf181_87 rfl (am_ge_rf w)
theorem bf182_0 : am_fetch (am_mth 182) 0 = some (.aload_n 0, 1, [], []) := by decide +kernel
theorem bf182_1 : am_fetch (am_mth 182) 1 = some (.aload_n 0, 1, [], []) := by decide +kernel
theorem bf182_2 : am_fetch (am_mth 182) 2 = some (.iload_n 1, 1, [], []) := by decide +kernel
theorem bf182_3 : am_fetch (am_mth 182) 3 = some (.invokevirtual 149, 3, [0, 99, 1, 11, 1387, 1389, 24, 48], []) := by decide +kernel
theorem bf182_6 : am_fetch (am_mth 182) 6 = some (.iconst 1, 1, [], []) := by decide +kernel
theorem bf182_7 : am_fetch (am_mth 182) 7 = some (.invokevirtual 83, 3, [0, 96, 2, 11, 1251, 1253, 18, 48], []) := by decide +kernel
theorem bf182_10 : am_fetch (am_mth 182) 10 = some (.ifCond .ne 26, 3, [], []) := by decide +kernel
theorem bf182_13 : am_fetch (am_mth 182) 13 = some (.aload_n 0, 1, [], []) := by decide +kernel
theorem bf182_14 : am_fetch (am_mth 182) 14 = some (.iload_n 2, 1, [], []) := by decide +kernel
theorem bf182_15 : am_fetch (am_mth 182) 15 = some (.iconst 0, 1, [], []) := by decide +kernel
theorem bf182_16 : am_fetch (am_mth 182) 16 = some (.bipush 12, 2, [], []) := by decide +kernel
theorem bf182_18 : am_fetch (am_mth 182) 18 = some (.invokestatic 42, 3, [0, 39, 3, 1245, 1246, 48], []) := by decide +kernel
theorem bf182_21 : am_fetch (am_mth 182) 21 = some (.ifCond .ne 7, 3, [], []) := by decide +kernel
theorem bf182_24 : am_fetch (am_mth 182) 24 = some (.iconst 1, 1, [], []) := by decide +kernel
theorem bf182_25 : am_fetch (am_mth 182) 25 = some (.goto 4, 3, [], []) := by decide +kernel
theorem bf182_28 : am_fetch (am_mth 182) 28 = some (.iconst 0, 1, [], []) := by decide +kernel
theorem bf182_29 : am_fetch (am_mth 182) 29 = some (.iconst 2, 1, [], []) := by decide +kernel
theorem bf182_30 : am_fetch (am_mth 182) 30 = some (.invokevirtual 38, 3, [0, 40, 2, 11, 1255, 1257, 19, 48], []) := by decide +kernel
theorem bf182_33 : am_fetch (am_mth 182) 33 = some (.ifCond .eq 7, 3, [], []) := by decide +kernel
theorem bf182_36 : am_fetch (am_mth 182) 36 = some (.iconst 0, 1, [], [0, 1, 2]) := by decide +kernel
theorem bf182_37 : am_fetch (am_mth 182) 37 = some (.goto 19, 3, [], [0, 1, 2]) := by decide +kernel
theorem bf182_40 : am_fetch (am_mth 182) 40 = some (.aload_n 0, 1, [], []) := by decide +kernel
theorem bf182_41 : am_fetch (am_mth 182) 41 = some (.aload_n 0, 1, [], []) := by decide +kernel
theorem bf182_42 : am_fetch (am_mth 182) 42 = some (.getfield 31, 3, [0, 11, 11, 1208], [0]) := by decide +kernel
theorem bf182_45 : am_fetch (am_mth 182) 45 = some (.iload_n 1, 1, [], [0]) := by decide +kernel
theorem bf182_46 : am_fetch (am_mth 182) 46 = some (.invokevirtual 152, 3, [0, 150, 1, 3, 1391, 1392, 1393, 51], [0, 1]) := by decide +kernel
theorem bf182_49 : am_fetch (am_mth 182) 49 = some (.checkcast 72, 3, [0, 10, 1295], [0, 1]) := by decide +kernel
theorem bf182_52 : am_fetch (am_mth 182) 52 = some (.iload_n 2, 1, [], [0, 1]) := by decide +kernel
theorem bf182_53 : am_fetch (am_mth 182) 53 = some (.invokevirtual 232, 3, [0, 146, 2, 11, 1565, 1567, 36, 48], [0, 1, 2]) := by decide +kernel
theorem bf182_56 : am_fetch (am_mth 182) 56 = some (.ireturn, 1, [0], [0, 1, 2]) := by decide +kernel
theorem bk182_0 {w : am_Wd} {l0 : Nat} {l1 : Int32} {l2 : Int32} : am_run 182 0 [some (.ref l0), some (.int l1), some (.int l2)] [] w = (am_kf w l0 11).bind fun _ => (am_x 99 [.ref l0, .int l1] w).bind fun r => bct r fun v w' => am_run 182 6 [some (.ref l0), some (.int l1), some (.int l2)] (v.toList ++ [.ref l0]) w' := by
  refine (bu (ls'' := [some (.ref l0), some (.int l1), some (.int l2)]) (st' := [.ref l0]) bf182_0 bf182_1 rfl rfl).trans ?_
  refine (bu (ls'' := [some (.ref l0), some (.int l1), some (.int l2)]) (st' := [.ref l0, .ref l0]) bf182_1 bf182_2 rfl rfl).trans ?_
  refine (bu (ls'' := [some (.ref l0), some (.int l1), some (.int l2)]) (st' := [.int l1, .ref l0, .ref l0]) bf182_2 bf182_3 rfl rfl).trans ?_
  exact bkV bf182_3 bf182_6 rfl (by decide +kernel) (Nat.le_of_ble_eq_true rfl) rfl (bhd rfl)
theorem bk182_6 {w : am_Wd} {l0 : Nat} {l1 : Int32} {l2 : Int32} {s0 : Int32} {s1 : Nat} : am_run 182 6 [some (.ref l0), some (.int l1), some (.int l2)] [.int s0, .ref s1] w = (am_kf w s1 11).bind fun _ => (am_x 96 [.ref s1, .int s0, .int (nI 1)] w).bind fun r => bct r fun v w' => am_run 182 10 [some (.ref l0), some (.int l1), some (.int l2)] (v.toList ++ []) w' := by
  refine (bu (ls'' := [some (.ref l0), some (.int l1), some (.int l2)]) (st' := [.int (nI 1), .int s0, .ref s1]) bf182_6 bf182_7 rfl rfl).trans ?_
  exact bkV bf182_7 bf182_10 rfl (by decide +kernel) (Nat.le_of_ble_eq_true rfl) rfl (bhd rfl)
theorem bk182_10 {w : am_Wd} {l0 : Nat} {l1 : Int32} {l2 : Int32} {s0 : Int32} : am_run 182 10 [some (.ref l0), some (.int l1), some (.int l2)] [.int s0] w = if ¬ s0 = nI 0 then am_run 182 36 [none, none, none] [] w else am_run 182 13 [some (.ref l0), some (.int l1), some (.int l2)] [] w := by
  exact bifc bf182_10 rfl bf182_36 bf182_13 rfl rfl rfl
theorem bk182_36 {w : am_Wd}  : am_run 182 36 [none, none, none] [] w = am_run 182 56 [none, none, none] [.int (nI 0)] w := by
  refine (bu (ls'' := [none, none, none]) (st' := [.int (nI 0)]) bf182_36 bf182_37 rfl rfl).trans ?_
  refine (bu (ls'' := [none, none, none]) (st' := [.int (nI 0)]) bf182_37 bf182_56 rfl rfl).trans ?_
  rfl
theorem bk182_13 {w : am_Wd} {l0 : Nat} {l1 : Int32} {l2 : Int32} : am_run 182 13 [some (.ref l0), some (.int l1), some (.int l2)] [] w = (am_x 39 [.int l2, .int (nI 0), .int (nI 12)] w).bind fun r => bct r fun v w' => am_run 182 21 [some (.ref l0), some (.int l1), some (.int l2)] (v.toList ++ [.ref l0]) w' := by
  refine (bu (ls'' := [some (.ref l0), some (.int l1), some (.int l2)]) (st' := [.ref l0]) bf182_13 bf182_14 rfl rfl).trans ?_
  refine (bu (ls'' := [some (.ref l0), some (.int l1), some (.int l2)]) (st' := [.int l2, .ref l0]) bf182_14 bf182_15 rfl rfl).trans ?_
  refine (bu (ls'' := [some (.ref l0), some (.int l1), some (.int l2)]) (st' := [.int (nI 0), .int l2, .ref l0]) bf182_15 bf182_16 rfl rfl).trans ?_
  refine (bu (ls'' := [some (.ref l0), some (.int l1), some (.int l2)]) (st' := [.int (nI 12), .int (nI 0), .int l2, .ref l0]) bf182_16 bf182_18 rfl rfl).trans ?_
  exact bkS bf182_18 bf182_21 rfl (by decide +kernel) (Nat.le_of_ble_eq_true rfl) rfl (bhd rfl)
theorem bk182_56 {w : am_Wd} {s0 : Int32} : am_run 182 56 [none, none, none] [.int s0] w = some (.inl (some (.int s0)), w) := by
  exact am_e2 bf182_56 rfl (am_ge_rf w)
theorem bk182_21 {w : am_Wd} {l0 : Nat} {l1 : Int32} {l2 : Int32} {s0 : Int32} {s1 : Nat} : am_run 182 21 [some (.ref l0), some (.int l1), some (.int l2)] [.int s0, .ref s1] w = if ¬ s0 = nI 0 then am_run 182 28 [some (.ref l0), some (.int l1), some (.int l2)] [.ref s1] w else am_run 182 24 [some (.ref l0), some (.int l1), some (.int l2)] [.ref s1] w := by
  exact bifc bf182_21 rfl bf182_28 bf182_24 rfl rfl rfl
theorem bk182_28 {w : am_Wd} {l0 : Nat} {l1 : Int32} {l2 : Int32} {s0 : Nat} : am_run 182 28 [some (.ref l0), some (.int l1), some (.int l2)] [.ref s0] w = am_run 182 29 [some (.ref l0), some (.int l1), some (.int l2)] [.int (nI 0), .ref s0] w := by
  refine (bu (ls'' := [some (.ref l0), some (.int l1), some (.int l2)]) (st' := [.int (nI 0), .ref s0]) bf182_28 bf182_29 rfl rfl).trans ?_
  rfl
theorem bk182_24 {w : am_Wd} {l0 : Nat} {l1 : Int32} {l2 : Int32} {s0 : Nat} : am_run 182 24 [some (.ref l0), some (.int l1), some (.int l2)] [.ref s0] w = am_run 182 29 [some (.ref l0), some (.int l1), some (.int l2)] [.int (nI 1), .ref s0] w := by
  refine (bu (ls'' := [some (.ref l0), some (.int l1), some (.int l2)]) (st' := [.int (nI 1), .ref s0]) bf182_24 bf182_25 rfl rfl).trans ?_
  refine (bu (ls'' := [some (.ref l0), some (.int l1), some (.int l2)]) (st' := [.int (nI 1), .ref s0]) bf182_25 bf182_29 rfl rfl).trans ?_
  rfl
theorem bk182_29 {w : am_Wd} {l0 : Nat} {l1 : Int32} {l2 : Int32} {s0 : Int32} {s1 : Nat} : am_run 182 29 [some (.ref l0), some (.int l1), some (.int l2)] [.int s0, .ref s1] w = (am_kf w s1 11).bind fun _ => (am_x 40 [.ref s1, .int s0, .int (nI 2)] w).bind fun r => bct r fun v w' => am_run 182 33 [some (.ref l0), some (.int l1), some (.int l2)] (v.toList ++ []) w' := by
  refine (bu (ls'' := [some (.ref l0), some (.int l1), some (.int l2)]) (st' := [.int (nI 2), .int s0, .ref s1]) bf182_29 bf182_30 rfl rfl).trans ?_
  exact bkV bf182_30 bf182_33 rfl (by decide +kernel) (Nat.le_of_ble_eq_true rfl) rfl (bhd rfl)
theorem bk182_33 {w : am_Wd} {l0 : Nat} {l1 : Int32} {l2 : Int32} {s0 : Int32} : am_run 182 33 [some (.ref l0), some (.int l1), some (.int l2)] [.int s0] w = if s0 = nI 0 then am_run 182 40 [some (.ref l0), some (.int l1), some (.int l2)] [] w else am_run 182 36 [none, none, none] [] w := by
  exact bifc bf182_33 rfl bf182_40 bf182_36 rfl rfl rfl
theorem bk182_40 {w : am_Wd} {l0 : Nat} {l1 : Int32} {l2 : Int32} : am_run 182 40 [some (.ref l0), some (.int l1), some (.int l2)] [] w = (am_gf w l0 11 11).bind fun v => am_run 182 45 [none, some (.int l1), some (.int l2)] (v :: [.ref l0]) w := by
  refine (bu (ls'' := [some (.ref l0), some (.int l1), some (.int l2)]) (st' := [.ref l0]) bf182_40 bf182_41 rfl rfl).trans ?_
  refine (bu (ls'' := [none, some (.int l1), some (.int l2)]) (st' := [.ref l0, .ref l0]) bf182_41 bf182_42 rfl rfl).trans ?_
  exact bh bf182_42 bf182_45 rfl (fun _ _ => am_ge_rf w) rfl
theorem bk182_45 {w : am_Wd} {l1 : Int32} {l2 : Int32} {s0 : Nat} {s1 : Nat} : am_run 182 45 [none, some (.int l1), some (.int l2)] [.ref s0, .ref s1] w = (am_kf w s0 3).bind fun _ => (am_x 150 [.ref s0, .int l1] w).bind fun r => bct r fun v w' => am_run 182 49 [none, none, some (.int l2)] (v.toList ++ [.ref s1]) w' := by
  refine (bu (ls'' := [none, none, some (.int l2)]) (st' := [.int l1, .ref s0, .ref s1]) bf182_45 bf182_46 rfl rfl).trans ?_
  exact bkV bf182_46 bf182_49 rfl (by decide +kernel) (Nat.le_of_ble_eq_true rfl) rfl (bhd rfl)
theorem bk182_49 {w : am_Wd} {l2 : Int32} {s0 : Nat} {s1 : Nat} : am_run 182 49 [none, none, some (.int l2)] [.ref s0, .ref s1] w = (am_kf w s0 10).bind fun _ => am_run 182 52 [none, none, some (.int l2)] [.ref s0, .ref s1] w := by
  exact bh bf182_49 bf182_52 rfl (fun _ _ => am_ge_rf w) rfl
theorem bk182_52 {w : am_Wd} {l2 : Int32} {s0 : Nat} {s1 : Nat} : am_run 182 52 [none, none, some (.int l2)] [.ref s0, .ref s1] w = (am_kf w s1 11).bind fun _ => (am_x 146 [.ref s1, .ref s0, .int l2] w).bind fun r => bct r fun v w' => am_run 182 56 [none, none, none] (v.toList ++ []) w' := by
  refine (bu (ls'' := [none, none, none]) (st' := [.int l2, .ref s0, .ref s1]) bf182_52 bf182_53 rfl rfl).trans ?_
  exact bkV bf182_53 bf182_56 rfl (by decide +kernel) (Nat.le_of_ble_eq_true rfl) rfl (bhd rfl)
theorem bf183_0 : am_fetch (am_mth 183) 0 = some (.aload_n 0, 1, [], []) := by decide +kernel
theorem bf183_1 : am_fetch (am_mth 183) 1 = some (.aload_n 0, 1, [], []) := by decide +kernel
theorem bf183_2 : am_fetch (am_mth 183) 2 = some (.iload_n 1, 1, [], []) := by decide +kernel
theorem bf183_3 : am_fetch (am_mth 183) 3 = some (.invokevirtual 149, 3, [0, 99, 1, 11, 1387, 1389, 24, 48], []) := by decide +kernel
theorem bf183_6 : am_fetch (am_mth 183) 6 = some (.ifCond .ne 14, 3, [], []) := by decide +kernel
theorem bf183_9 : am_fetch (am_mth 183) 9 = some (.iload_n 2, 1, [], []) := by decide +kernel
theorem bf183_10 : am_fetch (am_mth 183) 10 = some (.iconst 0, 1, [], []) := by decide +kernel
theorem bf183_11 : am_fetch (am_mth 183) 11 = some (.sipush 143, 3, [], []) := by decide +kernel
theorem bf183_14 : am_fetch (am_mth 183) 14 = some (.invokestatic 42, 3, [0, 39, 3, 1245, 1246, 48], []) := by decide +kernel
theorem bf183_17 : am_fetch (am_mth 183) 17 = some (.ifCond .ne 7, 3, [], []) := by decide +kernel
theorem bf183_20 : am_fetch (am_mth 183) 20 = some (.iconst 1, 1, [], []) := by decide +kernel
theorem bf183_21 : am_fetch (am_mth 183) 21 = some (.goto 4, 3, [], []) := by decide +kernel
theorem bf183_24 : am_fetch (am_mth 183) 24 = some (.iconst 0, 1, [], []) := by decide +kernel
theorem bf183_25 : am_fetch (am_mth 183) 25 = some (.iconst 1, 1, [], []) := by decide +kernel
theorem bf183_26 : am_fetch (am_mth 183) 26 = some (.invokevirtual 83, 3, [0, 96, 2, 11, 1251, 1253, 18, 48], []) := by decide +kernel
theorem bf183_29 : am_fetch (am_mth 183) 29 = some (.ifCond .ne 26, 3, [], []) := by decide +kernel
theorem bf183_32 : am_fetch (am_mth 183) 32 = some (.aload_n 0, 1, [], []) := by decide +kernel
theorem bf183_33 : am_fetch (am_mth 183) 33 = some (.getfield 31, 3, [0, 11, 11, 1208], [0]) := by decide +kernel
theorem bf183_36 : am_fetch (am_mth 183) 36 = some (.iload_n 1, 1, [], [0]) := by decide +kernel
theorem bf183_37 : am_fetch (am_mth 183) 37 = some (.invokevirtual 152, 3, [0, 150, 1, 3, 1391, 1392, 1393, 51], [0, 1]) := by decide +kernel
theorem bf183_40 : am_fetch (am_mth 183) 40 = some (.checkcast 72, 3, [0, 10, 1295], [0, 1]) := by decide +kernel
theorem bf183_43 : am_fetch (am_mth 183) 43 = some (.getfield 97, 3, [0, 10, 3, 1307], [0, 1]) := by decide +kernel
theorem bf183_46 : am_fetch (am_mth 183) 46 = some (.iload_n 2, 1, [], [0, 1]) := by decide +kernel
theorem bf183_47 : am_fetch (am_mth 183) 47 = some (.baload, 1, [2], [0, 1, 2]) := by decide +kernel
theorem bf183_48 : am_fetch (am_mth 183) 48 = some (.ifCond .eq 7, 3, [], [0, 1, 2]) := by decide +kernel
theorem bf183_51 : am_fetch (am_mth 183) 51 = some (.iconst 1, 1, [], [0, 1, 2]) := by decide +kernel
theorem bf183_52 : am_fetch (am_mth 183) 52 = some (.goto 4, 3, [], [0, 1, 2]) := by decide +kernel
theorem bf183_55 : am_fetch (am_mth 183) 55 = some (.iconst 0, 1, [], [0, 1, 2]) := by decide +kernel
theorem bf183_56 : am_fetch (am_mth 183) 56 = some (.ireturn, 1, [1], [0, 1, 2]) := by decide +kernel
theorem bk183_0 {w : am_Wd} {l0 : Nat} {l1 : Int32} {l2 : Int32} : am_run 183 0 [some (.ref l0), some (.int l1), some (.int l2)] [] w = (am_kf w l0 11).bind fun _ => (am_x 99 [.ref l0, .int l1] w).bind fun r => bct r fun v w' => am_run 183 6 [some (.ref l0), some (.int l1), some (.int l2)] (v.toList ++ [.ref l0]) w' := by
  refine (bu (ls'' := [some (.ref l0), some (.int l1), some (.int l2)]) (st' := [.ref l0]) bf183_0 bf183_1 rfl rfl).trans ?_
  refine (bu (ls'' := [some (.ref l0), some (.int l1), some (.int l2)]) (st' := [.ref l0, .ref l0]) bf183_1 bf183_2 rfl rfl).trans ?_
  refine (bu (ls'' := [some (.ref l0), some (.int l1), some (.int l2)]) (st' := [.int l1, .ref l0, .ref l0]) bf183_2 bf183_3 rfl rfl).trans ?_
  exact bkV bf183_3 bf183_6 rfl (by decide +kernel) (Nat.le_of_ble_eq_true rfl) rfl (bhd rfl)
theorem bk183_6 {w : am_Wd} {l0 : Nat} {l1 : Int32} {l2 : Int32} {s0 : Int32} {s1 : Nat} : am_run 183 6 [some (.ref l0), some (.int l1), some (.int l2)] [.int s0, .ref s1] w = if ¬ s0 = nI 0 then am_run 183 20 [some (.ref l0), some (.int l1), some (.int l2)] [.ref s1] w else am_run 183 9 [some (.ref l0), some (.int l1), some (.int l2)] [.ref s1] w := by
  exact bifc bf183_6 rfl bf183_20 bf183_9 rfl rfl rfl
theorem bk183_20 {w : am_Wd} {l0 : Nat} {l1 : Int32} {l2 : Int32} {s0 : Nat} : am_run 183 20 [some (.ref l0), some (.int l1), some (.int l2)] [.ref s0] w = am_run 183 25 [some (.ref l0), some (.int l1), some (.int l2)] [.int (nI 1), .ref s0] w := by
  refine (bu (ls'' := [some (.ref l0), some (.int l1), some (.int l2)]) (st' := [.int (nI 1), .ref s0]) bf183_20 bf183_21 rfl rfl).trans ?_
  refine (bu (ls'' := [some (.ref l0), some (.int l1), some (.int l2)]) (st' := [.int (nI 1), .ref s0]) bf183_21 bf183_25 rfl rfl).trans ?_
  rfl
theorem bk183_9 {w : am_Wd} {l0 : Nat} {l1 : Int32} {l2 : Int32} {s0 : Nat} : am_run 183 9 [some (.ref l0), some (.int l1), some (.int l2)] [.ref s0] w = (am_x 39 [.int l2, .int (nI 0), .int (nI 143)] w).bind fun r => bct r fun v w' => am_run 183 17 [some (.ref l0), some (.int l1), some (.int l2)] (v.toList ++ [.ref s0]) w' := by
  refine (bu (ls'' := [some (.ref l0), some (.int l1), some (.int l2)]) (st' := [.int l2, .ref s0]) bf183_9 bf183_10 rfl rfl).trans ?_
  refine (bu (ls'' := [some (.ref l0), some (.int l1), some (.int l2)]) (st' := [.int (nI 0), .int l2, .ref s0]) bf183_10 bf183_11 rfl rfl).trans ?_
  refine (bu (ls'' := [some (.ref l0), some (.int l1), some (.int l2)]) (st' := [.int (nI 143), .int (nI 0), .int l2, .ref s0]) bf183_11 bf183_14 rfl rfl).trans ?_
  exact bkS bf183_14 bf183_17 rfl (by decide +kernel) (Nat.le_of_ble_eq_true rfl) rfl (bhd rfl)
theorem bk183_25 {w : am_Wd} {l0 : Nat} {l1 : Int32} {l2 : Int32} {s0 : Int32} {s1 : Nat} : am_run 183 25 [some (.ref l0), some (.int l1), some (.int l2)] [.int s0, .ref s1] w = (am_kf w s1 11).bind fun _ => (am_x 96 [.ref s1, .int s0, .int (nI 1)] w).bind fun r => bct r fun v w' => am_run 183 29 [some (.ref l0), some (.int l1), some (.int l2)] (v.toList ++ []) w' := by
  refine (bu (ls'' := [some (.ref l0), some (.int l1), some (.int l2)]) (st' := [.int (nI 1), .int s0, .ref s1]) bf183_25 bf183_26 rfl rfl).trans ?_
  exact bkV bf183_26 bf183_29 rfl (by decide +kernel) (Nat.le_of_ble_eq_true rfl) rfl (bhd rfl)
theorem bk183_17 {w : am_Wd} {l0 : Nat} {l1 : Int32} {l2 : Int32} {s0 : Int32} {s1 : Nat} : am_run 183 17 [some (.ref l0), some (.int l1), some (.int l2)] [.int s0, .ref s1] w = if ¬ s0 = nI 0 then am_run 183 24 [some (.ref l0), some (.int l1), some (.int l2)] [.ref s1] w else am_run 183 20 [some (.ref l0), some (.int l1), some (.int l2)] [.ref s1] w := by
  exact bifc bf183_17 rfl bf183_24 bf183_20 rfl rfl rfl
theorem bk183_29 {w : am_Wd} {l0 : Nat} {l1 : Int32} {l2 : Int32} {s0 : Int32} : am_run 183 29 [some (.ref l0), some (.int l1), some (.int l2)] [.int s0] w = if ¬ s0 = nI 0 then am_run 183 55 [none, none, none] [] w else am_run 183 32 [some (.ref l0), some (.int l1), some (.int l2)] [] w := by
  exact bifc bf183_29 rfl bf183_55 bf183_32 rfl rfl rfl
theorem bk183_24 {w : am_Wd} {l0 : Nat} {l1 : Int32} {l2 : Int32} {s0 : Nat} : am_run 183 24 [some (.ref l0), some (.int l1), some (.int l2)] [.ref s0] w = am_run 183 25 [some (.ref l0), some (.int l1), some (.int l2)] [.int (nI 0), .ref s0] w := by
  refine (bu (ls'' := [some (.ref l0), some (.int l1), some (.int l2)]) (st' := [.int (nI 0), .ref s0]) bf183_24 bf183_25 rfl rfl).trans ?_
  rfl
theorem bk183_55 {w : am_Wd}  : am_run 183 55 [none, none, none] [] w = am_run 183 56 [none, none, none] [.int (nI 0)] w := by
  refine (bu (ls'' := [none, none, none]) (st' := [.int (nI 0)]) bf183_55 bf183_56 rfl rfl).trans ?_
  rfl
theorem bk183_32 {w : am_Wd} {l0 : Nat} {l1 : Int32} {l2 : Int32} : am_run 183 32 [some (.ref l0), some (.int l1), some (.int l2)] [] w = (am_gf w l0 11 11).bind fun v => am_run 183 36 [none, some (.int l1), some (.int l2)] (v :: []) w := by
  refine (bu (ls'' := [none, some (.int l1), some (.int l2)]) (st' := [.ref l0]) bf183_32 bf183_33 rfl rfl).trans ?_
  exact bh bf183_33 bf183_36 rfl (fun _ _ => am_ge_rf w) rfl
theorem bk183_56 {w : am_Wd} {s0 : Int32} (hb : am_ok (am_rt 1) (.int s0) = true) : am_run 183 56 [none, none, none] [.int s0] w = some (.inl (some (.int s0)), w) := by
  exact am_e2 bf183_56 (by unfold am_stp; exact if_pos ⟨by decide, hb⟩) (am_ge_rf w)
theorem bk183_36 {w : am_Wd} {l1 : Int32} {l2 : Int32} {s0 : Nat} : am_run 183 36 [none, some (.int l1), some (.int l2)] [.ref s0] w = (am_kf w s0 3).bind fun _ => (am_x 150 [.ref s0, .int l1] w).bind fun r => bct r fun v w' => am_run 183 40 [none, none, some (.int l2)] (v.toList ++ []) w' := by
  refine (bu (ls'' := [none, none, some (.int l2)]) (st' := [.int l1, .ref s0]) bf183_36 bf183_37 rfl rfl).trans ?_
  exact bkV bf183_37 bf183_40 rfl (by decide +kernel) (Nat.le_of_ble_eq_true rfl) rfl (bhd rfl)
theorem bk183_40 {w : am_Wd} {l2 : Int32} {s0 : Nat} : am_run 183 40 [none, none, some (.int l2)] [.ref s0] w = (am_kf w s0 10).bind fun _ => am_run 183 43 [none, none, some (.int l2)] [.ref s0] w := by
  exact bh bf183_40 bf183_43 rfl (fun _ _ => am_ge_rf w) rfl
theorem bk183_43 {w : am_Wd} {l2 : Int32} {s0 : Nat} : am_run 183 43 [none, none, some (.int l2)] [.ref s0] w = (am_gf w s0 10 3).bind fun v => am_run 183 46 [none, none, some (.int l2)] (v :: []) w := by
  exact bh bf183_43 bf183_46 rfl (fun _ _ => am_ge_rf w) rfl
theorem bk183_46 {w : am_Wd} {l2 : Int32} {s0 : Nat} : am_run 183 46 [none, none, some (.int l2)] [.ref s0] w = (am_ri 2 w s0 l2).bind fun v => am_run 183 48 [none, none, none] (.int v :: []) w := by
  refine (bu (ls'' := [none, none, none]) (st' := [.int l2, .ref s0]) bf183_46 bf183_47 rfl rfl).trans ?_
  exact bh bf183_47 bf183_48 rfl (fun _ _ => am_ge_rf w) rfl
theorem bk183_48 {w : am_Wd} {s0 : Int32} : am_run 183 48 [none, none, none] [.int s0] w = if s0 = nI 0 then am_run 183 55 [none, none, none] [] w else am_run 183 51 [none, none, none] [] w := by
  exact bifc bf183_48 rfl bf183_55 bf183_51 rfl rfl rfl
theorem bk183_51 {w : am_Wd}  : am_run 183 51 [none, none, none] [] w = am_run 183 56 [none, none, none] [.int (nI 1)] w := by
  refine (bu (ls'' := [none, none, none]) (st' := [.int (nI 1)]) bf183_51 bf183_52 rfl rfl).trans ?_
  refine (bu (ls'' := [none, none, none]) (st' := [.int (nI 1)]) bf183_52 bf183_56 rfl rfl).trans ?_
  rfl
theorem bf184_0 : am_fetch (am_mth 184) 0 = some (.aload_n 0, 1, [], []) := by decide +kernel
theorem bf184_1 : am_fetch (am_mth 184) 1 = some (.aload_n 0, 1, [], []) := by decide +kernel
theorem bf184_2 : am_fetch (am_mth 184) 2 = some (.iload_n 1, 1, [], []) := by decide +kernel
theorem bf184_3 : am_fetch (am_mth 184) 3 = some (.invokevirtual 149, 3, [0, 99, 1, 11, 1387, 1389, 24, 48], []) := by decide +kernel
theorem bf184_6 : am_fetch (am_mth 184) 6 = some (.iconst 1, 1, [], []) := by decide +kernel
theorem bf184_7 : am_fetch (am_mth 184) 7 = some (.invokevirtual 83, 3, [0, 96, 2, 11, 1251, 1253, 18, 48], []) := by decide +kernel
theorem bf184_10 : am_fetch (am_mth 184) 10 = some (.ifCond .ne 15, 3, [], []) := by decide +kernel
theorem bf184_13 : am_fetch (am_mth 184) 13 = some (.aload_n 0, 1, [], []) := by decide +kernel
theorem bf184_14 : am_fetch (am_mth 184) 14 = some (.iload_n 2, 1, [], []) := by decide +kernel
theorem bf184_15 : am_fetch (am_mth 184) 15 = some (.invokestatic 80, 3, [0, 98, 1, 1248, 1249, 48], []) := by decide +kernel
theorem bf184_18 : am_fetch (am_mth 184) 18 = some (.iconst 2, 1, [], []) := by decide +kernel
theorem bf184_19 : am_fetch (am_mth 184) 19 = some (.invokevirtual 38, 3, [0, 40, 2, 11, 1255, 1257, 19, 48], []) := by decide +kernel
theorem bf184_22 : am_fetch (am_mth 184) 22 = some (.ifCond .eq 7, 3, [], []) := by decide +kernel
theorem bf184_25 : am_fetch (am_mth 184) 25 = some (.lconst 0, 1, [], [0, 1, 2]) := by decide +kernel
theorem bf184_26 : am_fetch (am_mth 184) 26 = some (.goto 19, 3, [], [0, 1, 2]) := by decide +kernel
theorem bf184_29 : am_fetch (am_mth 184) 29 = some (.aload_n 0, 1, [], []) := by decide +kernel
theorem bf184_30 : am_fetch (am_mth 184) 30 = some (.aload_n 0, 1, [], []) := by decide +kernel
theorem bf184_31 : am_fetch (am_mth 184) 31 = some (.getfield 31, 3, [0, 11, 11, 1208], [0]) := by decide +kernel
theorem bf184_34 : am_fetch (am_mth 184) 34 = some (.iload_n 1, 1, [], [0]) := by decide +kernel
theorem bf184_35 : am_fetch (am_mth 184) 35 = some (.invokevirtual 152, 3, [0, 150, 1, 3, 1391, 1392, 1393, 51], [0, 1]) := by decide +kernel
theorem bf184_38 : am_fetch (am_mth 184) 38 = some (.checkcast 72, 3, [0, 10, 1295], [0, 1]) := by decide +kernel
theorem bf184_41 : am_fetch (am_mth 184) 41 = some (.iload_n 2, 1, [], [0, 1]) := by decide +kernel
theorem bf184_42 : am_fetch (am_mth 184) 42 = some (.invokevirtual 273, 3, [0, 48, 2, 11, 1632, 1634, 38, 48], [0, 1, 2]) := by decide +kernel
theorem bf184_45 : am_fetch (am_mth 184) 45 = some (.lreturn, 1, [], [0, 1, 2]) := by decide +kernel
theorem bk184_0 {w : am_Wd} {l0 : Nat} {l1 : Int32} {l2 : Int32} : am_run 184 0 [some (.ref l0), some (.int l1), some (.int l2)] [] w = (am_kf w l0 11).bind fun _ => (am_x 99 [.ref l0, .int l1] w).bind fun r => bct r fun v w' => am_run 184 6 [some (.ref l0), some (.int l1), some (.int l2)] (v.toList ++ [.ref l0]) w' := by
  refine (bu (ls'' := [some (.ref l0), some (.int l1), some (.int l2)]) (st' := [.ref l0]) bf184_0 bf184_1 rfl rfl).trans ?_
  refine (bu (ls'' := [some (.ref l0), some (.int l1), some (.int l2)]) (st' := [.ref l0, .ref l0]) bf184_1 bf184_2 rfl rfl).trans ?_
  refine (bu (ls'' := [some (.ref l0), some (.int l1), some (.int l2)]) (st' := [.int l1, .ref l0, .ref l0]) bf184_2 bf184_3 rfl rfl).trans ?_
  exact bkV bf184_3 bf184_6 rfl (by decide +kernel) (Nat.le_of_ble_eq_true rfl) rfl (bhd rfl)
theorem bk184_6 {w : am_Wd} {l0 : Nat} {l1 : Int32} {l2 : Int32} {s0 : Int32} {s1 : Nat} : am_run 184 6 [some (.ref l0), some (.int l1), some (.int l2)] [.int s0, .ref s1] w = (am_kf w s1 11).bind fun _ => (am_x 96 [.ref s1, .int s0, .int (nI 1)] w).bind fun r => bct r fun v w' => am_run 184 10 [some (.ref l0), some (.int l1), some (.int l2)] (v.toList ++ []) w' := by
  refine (bu (ls'' := [some (.ref l0), some (.int l1), some (.int l2)]) (st' := [.int (nI 1), .int s0, .ref s1]) bf184_6 bf184_7 rfl rfl).trans ?_
  exact bkV bf184_7 bf184_10 rfl (by decide +kernel) (Nat.le_of_ble_eq_true rfl) rfl (bhd rfl)
theorem bk184_10 {w : am_Wd} {l0 : Nat} {l1 : Int32} {l2 : Int32} {s0 : Int32} : am_run 184 10 [some (.ref l0), some (.int l1), some (.int l2)] [.int s0] w = if ¬ s0 = nI 0 then am_run 184 25 [none, none, none] [] w else am_run 184 13 [some (.ref l0), some (.int l1), some (.int l2)] [] w := by
  exact bifc bf184_10 rfl bf184_25 bf184_13 rfl rfl rfl
theorem bk184_25 {w : am_Wd}  : am_run 184 25 [none, none, none] [] w = am_run 184 45 [none, none, none] [.long (lN 0)] w := by
  refine (bu (ls'' := [none, none, none]) (st' := [.long (lN 0)]) bf184_25 bf184_26 rfl rfl).trans ?_
  refine (bu (ls'' := [none, none, none]) (st' := [.long (lN 0)]) bf184_26 bf184_45 rfl rfl).trans ?_
  rfl
theorem bk184_13 {w : am_Wd} {l0 : Nat} {l1 : Int32} {l2 : Int32} : am_run 184 13 [some (.ref l0), some (.int l1), some (.int l2)] [] w = (am_x 98 [.int l2] w).bind fun r => bct r fun v w' => am_run 184 18 [some (.ref l0), some (.int l1), some (.int l2)] (v.toList ++ [.ref l0]) w' := by
  refine (bu (ls'' := [some (.ref l0), some (.int l1), some (.int l2)]) (st' := [.ref l0]) bf184_13 bf184_14 rfl rfl).trans ?_
  refine (bu (ls'' := [some (.ref l0), some (.int l1), some (.int l2)]) (st' := [.int l2, .ref l0]) bf184_14 bf184_15 rfl rfl).trans ?_
  exact bkS bf184_15 bf184_18 rfl (by decide +kernel) (Nat.le_of_ble_eq_true rfl) rfl (bhd rfl)
theorem bk184_45 {w : am_Wd} {s0 : Int64} : am_run 184 45 [none, none, none] [.long s0] w = some (.inl (some (.long s0)), w) := by
  exact am_e2 bf184_45 rfl (am_ge_rf w)
theorem bk184_18 {w : am_Wd} {l0 : Nat} {l1 : Int32} {l2 : Int32} {s0 : Int32} {s1 : Nat} : am_run 184 18 [some (.ref l0), some (.int l1), some (.int l2)] [.int s0, .ref s1] w = (am_kf w s1 11).bind fun _ => (am_x 40 [.ref s1, .int s0, .int (nI 2)] w).bind fun r => bct r fun v w' => am_run 184 22 [some (.ref l0), some (.int l1), some (.int l2)] (v.toList ++ []) w' := by
  refine (bu (ls'' := [some (.ref l0), some (.int l1), some (.int l2)]) (st' := [.int (nI 2), .int s0, .ref s1]) bf184_18 bf184_19 rfl rfl).trans ?_
  exact bkV bf184_19 bf184_22 rfl (by decide +kernel) (Nat.le_of_ble_eq_true rfl) rfl (bhd rfl)
theorem bk184_22 {w : am_Wd} {l0 : Nat} {l1 : Int32} {l2 : Int32} {s0 : Int32} : am_run 184 22 [some (.ref l0), some (.int l1), some (.int l2)] [.int s0] w = if s0 = nI 0 then am_run 184 29 [some (.ref l0), some (.int l1), some (.int l2)] [] w else am_run 184 25 [none, none, none] [] w := by
  exact bifc bf184_22 rfl bf184_29 bf184_25 rfl rfl rfl
theorem bk184_29 {w : am_Wd} {l0 : Nat} {l1 : Int32} {l2 : Int32} : am_run 184 29 [some (.ref l0), some (.int l1), some (.int l2)] [] w = (am_gf w l0 11 11).bind fun v => am_run 184 34 [none, some (.int l1), some (.int l2)] (v :: [.ref l0]) w := by
  refine (bu (ls'' := [some (.ref l0), some (.int l1), some (.int l2)]) (st' := [.ref l0]) bf184_29 bf184_30 rfl rfl).trans ?_
  refine (bu (ls'' := [none, some (.int l1), some (.int l2)]) (st' := [.ref l0, .ref l0]) bf184_30 bf184_31 rfl rfl).trans ?_
  exact bh bf184_31 bf184_34 rfl (fun _ _ => am_ge_rf w) rfl
theorem bk184_34 {w : am_Wd} {l1 : Int32} {l2 : Int32} {s0 : Nat} {s1 : Nat} : am_run 184 34 [none, some (.int l1), some (.int l2)] [.ref s0, .ref s1] w = (am_kf w s0 3).bind fun _ => (am_x 150 [.ref s0, .int l1] w).bind fun r => bct r fun v w' => am_run 184 38 [none, none, some (.int l2)] (v.toList ++ [.ref s1]) w' := by
  refine (bu (ls'' := [none, none, some (.int l2)]) (st' := [.int l1, .ref s0, .ref s1]) bf184_34 bf184_35 rfl rfl).trans ?_
  exact bkV bf184_35 bf184_38 rfl (by decide +kernel) (Nat.le_of_ble_eq_true rfl) rfl (bhd rfl)
theorem bk184_38 {w : am_Wd} {l2 : Int32} {s0 : Nat} {s1 : Nat} : am_run 184 38 [none, none, some (.int l2)] [.ref s0, .ref s1] w = (am_kf w s0 10).bind fun _ => am_run 184 41 [none, none, some (.int l2)] [.ref s0, .ref s1] w := by
  exact bh bf184_38 bf184_41 rfl (fun _ _ => am_ge_rf w) rfl
theorem bk184_41 {w : am_Wd} {l2 : Int32} {s0 : Nat} {s1 : Nat} : am_run 184 41 [none, none, some (.int l2)] [.ref s0, .ref s1] w = (am_kf w s1 11).bind fun _ => (am_x 48 [.ref s1, .ref s0, .int l2] w).bind fun r => bct r fun v w' => am_run 184 45 [none, none, none] (v.toList ++ []) w' := by
  refine (bu (ls'' := [none, none, none]) (st' := [.int l2, .ref s0, .ref s1]) bf184_41 bf184_42 rfl rfl).trans ?_
  exact bkV bf184_42 bf184_45 rfl (by decide +kernel) (Nat.le_of_ble_eq_true rfl) rfl (bhd rfl)
theorem bf185_0 : am_fetch (am_mth 185) 0 = some (.aload_n 0, 1, [], []) := by decide +kernel
theorem bf185_1 : am_fetch (am_mth 185) 1 = some (.aload_n 0, 1, [], []) := by decide +kernel
theorem bf185_2 : am_fetch (am_mth 185) 2 = some (.iload_n 1, 1, [], []) := by decide +kernel
theorem bf185_3 : am_fetch (am_mth 185) 3 = some (.invokevirtual 149, 3, [0, 99, 1, 11, 1387, 1389, 24, 48], []) := by decide +kernel
theorem bf185_6 : am_fetch (am_mth 185) 6 = some (.iconst 1, 1, [], []) := by decide +kernel
theorem bf185_7 : am_fetch (am_mth 185) 7 = some (.invokevirtual 83, 3, [0, 96, 2, 11, 1251, 1253, 18, 48], []) := by decide +kernel
theorem bf185_10 : am_fetch (am_mth 185) 10 = some (.ifCond .eq 7, 3, [], []) := by decide +kernel
theorem bf185_13 : am_fetch (am_mth 185) 13 = some (.dconst 0, 1, [], [0, 1]) := by decide +kernel
theorem bf185_14 : am_fetch (am_mth 185) 14 = some (.goto 18, 3, [], [0, 1]) := by decide +kernel
theorem bf185_17 : am_fetch (am_mth 185) 17 = some (.aload_n 0, 1, [], []) := by decide +kernel
theorem bf185_18 : am_fetch (am_mth 185) 18 = some (.aload_n 0, 1, [], []) := by decide +kernel
theorem bf185_19 : am_fetch (am_mth 185) 19 = some (.getfield 31, 3, [0, 11, 11, 1208], [0]) := by decide +kernel
theorem bf185_22 : am_fetch (am_mth 185) 22 = some (.iload_n 1, 1, [], [0]) := by decide +kernel
theorem bf185_23 : am_fetch (am_mth 185) 23 = some (.invokevirtual 152, 3, [0, 150, 1, 3, 1391, 1392, 1393, 51], [0, 1]) := by decide +kernel
theorem bf185_26 : am_fetch (am_mth 185) 26 = some (.checkcast 72, 3, [0, 10, 1295], [0, 1]) := by decide +kernel
theorem bf185_29 : am_fetch (am_mth 185) 29 = some (.invokevirtual 285, 3, [0, 49, 1, 11, 1656, 1658, 41, 48], [0, 1]) := by decide +kernel
theorem bf185_32 : am_fetch (am_mth 185) 32 = some (.dreturn, 1, [], [0, 1]) := by decide +kernel
theorem bk185_0 {w : am_Wd} {l0 : Nat} {l1 : Int32} : am_run 185 0 [some (.ref l0), some (.int l1)] [] w = (am_kf w l0 11).bind fun _ => (am_x 99 [.ref l0, .int l1] w).bind fun r => bct r fun v w' => am_run 185 6 [some (.ref l0), some (.int l1)] (v.toList ++ [.ref l0]) w' := by
  refine (bu (ls'' := [some (.ref l0), some (.int l1)]) (st' := [.ref l0]) bf185_0 bf185_1 rfl rfl).trans ?_
  refine (bu (ls'' := [some (.ref l0), some (.int l1)]) (st' := [.ref l0, .ref l0]) bf185_1 bf185_2 rfl rfl).trans ?_
  refine (bu (ls'' := [some (.ref l0), some (.int l1)]) (st' := [.int l1, .ref l0, .ref l0]) bf185_2 bf185_3 rfl rfl).trans ?_
  exact bkV bf185_3 bf185_6 rfl (by decide +kernel) (Nat.le_of_ble_eq_true rfl) rfl (bhd rfl)
theorem bk185_6 {w : am_Wd} {l0 : Nat} {l1 : Int32} {s0 : Int32} {s1 : Nat} : am_run 185 6 [some (.ref l0), some (.int l1)] [.int s0, .ref s1] w = (am_kf w s1 11).bind fun _ => (am_x 96 [.ref s1, .int s0, .int (nI 1)] w).bind fun r => bct r fun v w' => am_run 185 10 [some (.ref l0), some (.int l1)] (v.toList ++ []) w' := by
  refine (bu (ls'' := [some (.ref l0), some (.int l1)]) (st' := [.int (nI 1), .int s0, .ref s1]) bf185_6 bf185_7 rfl rfl).trans ?_
  exact bkV bf185_7 bf185_10 rfl (by decide +kernel) (Nat.le_of_ble_eq_true rfl) rfl (bhd rfl)
theorem bk185_10 {w : am_Wd} {l0 : Nat} {l1 : Int32} {s0 : Int32} : am_run 185 10 [some (.ref l0), some (.int l1)] [.int s0] w = if s0 = nI 0 then am_run 185 17 [some (.ref l0), some (.int l1)] [] w else am_run 185 13 [none, none] [] w := by
  exact bifc bf185_10 rfl bf185_17 bf185_13 rfl rfl rfl
theorem bk185_17 {w : am_Wd} {l0 : Nat} {l1 : Int32} : am_run 185 17 [some (.ref l0), some (.int l1)] [] w = (am_gf w l0 11 11).bind fun v => am_run 185 22 [none, some (.int l1)] (v :: [.ref l0]) w := by
  refine (bu (ls'' := [some (.ref l0), some (.int l1)]) (st' := [.ref l0]) bf185_17 bf185_18 rfl rfl).trans ?_
  refine (bu (ls'' := [none, some (.int l1)]) (st' := [.ref l0, .ref l0]) bf185_18 bf185_19 rfl rfl).trans ?_
  exact bh bf185_19 bf185_22 rfl (fun _ _ => am_ge_rf w) rfl
theorem bk185_13 {w : am_Wd}  : am_run 185 13 [none, none] [] w = am_run 185 32 [none, none] [.double FP.dconst0] w := by
  refine (bu (ls'' := [none, none]) (st' := [.double FP.dconst0]) bf185_13 bf185_14 rfl rfl).trans ?_
  refine (bu (ls'' := [none, none]) (st' := [.double FP.dconst0]) bf185_14 bf185_32 rfl rfl).trans ?_
  rfl
theorem bk185_22 {w : am_Wd} {l1 : Int32} {s0 : Nat} {s1 : Nat} : am_run 185 22 [none, some (.int l1)] [.ref s0, .ref s1] w = (am_kf w s0 3).bind fun _ => (am_x 150 [.ref s0, .int l1] w).bind fun r => bct r fun v w' => am_run 185 26 [none, none] (v.toList ++ [.ref s1]) w' := by
  refine (bu (ls'' := [none, none]) (st' := [.int l1, .ref s0, .ref s1]) bf185_22 bf185_23 rfl rfl).trans ?_
  exact bkV bf185_23 bf185_26 rfl (by decide +kernel) (Nat.le_of_ble_eq_true rfl) rfl (bhd rfl)
theorem bk185_32 {w : am_Wd} {s0 : UInt64} : am_run 185 32 [none, none] [.double s0] w = some (.inl (some (.double s0)), w) := by
  exact am_e2 bf185_32 rfl (am_ge_rf w)
theorem bk185_26 {w : am_Wd} {s0 : Nat} {s1 : Nat} : am_run 185 26 [none, none] [.ref s0, .ref s1] w = (am_kf w s0 10).bind fun _ => am_run 185 29 [none, none] [.ref s0, .ref s1] w := by
  exact bh bf185_26 bf185_29 rfl (fun _ _ => am_ge_rf w) rfl
theorem bk185_29 {w : am_Wd} {s0 : Nat} {s1 : Nat} : am_run 185 29 [none, none] [.ref s0, .ref s1] w = (am_kf w s1 11).bind fun _ => (am_x 49 [.ref s1, .ref s0] w).bind fun r => bct r fun v w' => am_run 185 32 [none, none] (v.toList ++ []) w' := by
  exact bkV bf185_29 bf185_32 rfl (by decide +kernel) (Nat.le_of_ble_eq_true rfl) rfl (bhd rfl)
theorem bf186_0 : am_fetch (am_mth 186) 0 = some (.aload_n 0, 1, [], [1, 2, 3]) := by decide +kernel
theorem bf186_1 : am_fetch (am_mth 186) 1 = some (.getfield 31, 3, [0, 11, 11, 1208], [1, 2, 3]) := by decide +kernel
theorem bf186_4 : am_fetch (am_mth 186) 4 = some (.invokevirtual 200, 3, [0, 105, 0, 3, 1486, 1487, 1488, 51], [1, 2, 3]) := by decide +kernel
theorem bf186_7 : am_fetch (am_mth 186) 7 = some (.astore_n 1, 1, [], [1, 2, 3]) := by decide +kernel
theorem bf186_8 : am_fetch (am_mth 186) 8 = some (.aload_n 1, 1, [], [2, 3]) := by decide +kernel
theorem bf186_9 : am_fetch (am_mth 186) 9 = some (.invokeinterface 204 1, 5, [0, 52, 0, 2, 1510, 1514, 1516, 72], [2, 3]) := by decide +kernel
theorem bf186_14 : am_fetch (am_mth 186) 14 = some (.ifCond .eq 118, 3, [], [2, 3]) := by decide +kernel
theorem bf186_17 : am_fetch (am_mth 186) 17 = some (.aload_n 1, 1, [], [2, 3]) := by decide +kernel
theorem bf186_18 : am_fetch (am_mth 186) 18 = some (.invokeinterface 210 1, 5, [0, 103, 0, 2, 1520, 1523, 1525, 72], [2, 3]) := by decide +kernel
theorem bf186_23 : am_fetch (am_mth 186) 23 = some (.checkcast 72, 3, [0, 10, 1295], [2, 3]) := by decide +kernel
theorem bf186_26 : am_fetch (am_mth 186) 26 = some (.astore_n 2, 1, [], [2, 3]) := by decide +kernel
theorem bf186_27 : am_fetch (am_mth 186) 27 = some (.aload_n 2, 1, [], [3]) := by decide +kernel
theorem bf186_28 : am_fetch (am_mth 186) 28 = some (.invokevirtual 143, 3, [0, 37, 0, 10, 1459, 1408, 1409, 66], [3]) := by decide +kernel
theorem bf186_31 : am_fetch (am_mth 186) 31 = some (.iconst 1, 1, [], [3]) := by decide +kernel
theorem bf186_32 : am_fetch (am_mth 186) 32 = some (.sipush 144, 3, [], [3]) := by decide +kernel
theorem bf186_35 : am_fetch (am_mth 186) 35 = some (.invokestatic 42, 3, [0, 39, 3, 1245, 1246, 48], [3]) := by decide +kernel
theorem bf186_38 : am_fetch (am_mth 186) 38 = some (.ifCond .eq 51, 3, [], [3]) := by decide +kernel
theorem bf186_41 : am_fetch (am_mth 186) 41 = some (.aload_n 2, 1, [], [3]) := by decide +kernel
theorem bf186_42 : am_fetch (am_mth 186) 42 = some (.getfield 107, 3, [0, 10, 2, 1305], [3]) := by decide +kernel
theorem bf186_45 : am_fetch (am_mth 186) 45 = some (.iconst 0, 1, [], [3]) := by decide +kernel
theorem bf186_46 : am_fetch (am_mth 186) 46 = some (.sipush 500, 3, [], [3]) := by decide +kernel
theorem bf186_49 : am_fetch (am_mth 186) 49 = some (.invokestatic 42, 3, [0, 39, 3, 1245, 1246, 48], [3]) := by decide +kernel
theorem bf186_52 : am_fetch (am_mth 186) 52 = some (.ifCond .eq 37, 3, [], [3]) := by decide +kernel
theorem bf186_55 : am_fetch (am_mth 186) 55 = some (.aload_n 2, 1, [], [3]) := by decide +kernel
theorem bf186_56 : am_fetch (am_mth 186) 56 = some (.getfield 101, 3, [0, 10, 0, 1303], [3]) := by decide +kernel
theorem bf186_59 : am_fetch (am_mth 186) 59 = some (.iconst 0, 1, [], [3]) := by decide +kernel
theorem bf186_60 : am_fetch (am_mth 186) 60 = some (.sipush 143, 3, [], [3]) := by decide +kernel
theorem bf186_63 : am_fetch (am_mth 186) 63 = some (.invokestatic 42, 3, [0, 39, 3, 1245, 1246, 48], [3]) := by decide +kernel
theorem bf186_66 : am_fetch (am_mth 186) 66 = some (.ifCond .eq 23, 3, [], [3]) := by decide +kernel
theorem bf186_69 : am_fetch (am_mth 186) 69 = some (.aload_n 2, 1, [], [3]) := by decide +kernel
theorem bf186_70 : am_fetch (am_mth 186) 70 = some (.getfield 140, 3, [0, 10, 6, 1311], [3]) := by decide +kernel
theorem bf186_73 : am_fetch (am_mth 186) 73 = some (.aload_n 2, 1, [], [3]) := by decide +kernel
theorem bf186_74 : am_fetch (am_mth 186) 74 = some (.getfield 172, 3, [0, 10, 7, 1312], [3]) := by decide +kernel
theorem bf186_77 : am_fetch (am_mth 186) 77 = some (.aload_n 2, 1, [], [3]) := by decide +kernel
theorem bf186_78 : am_fetch (am_mth 186) 78 = some (.getfield 169, 3, [0, 10, 8, 1313], [3]) := by decide +kernel
theorem bf186_81 : am_fetch (am_mth 186) 81 = some (.iadd, 1, [], [3]) := by decide +kernel
theorem bf186_82 : am_fetch (am_mth 186) 82 = some (.if_icmp .lt 7, 3, [], [3]) := by decide +kernel
theorem bf186_85 : am_fetch (am_mth 186) 85 = some (.iconst 1, 1, [], [3]) := by decide +kernel
theorem bf186_86 : am_fetch (am_mth 186) 86 = some (.goto 4, 3, [], [3]) := by decide +kernel
theorem bf186_89 : am_fetch (am_mth 186) 89 = some (.iconst 0, 1, [], [3]) := by decide +kernel
theorem bf186_90 : am_fetch (am_mth 186) 90 = some (.istore_n 3, 1, [], [3]) := by decide +kernel
theorem bf186_91 : am_fetch (am_mth 186) 91 = some (.iload_n 3, 1, [], []) := by decide +kernel
theorem bf186_92 : am_fetch (am_mth 186) 92 = some (.ifCond .eq 35, 3, [], [3]) := by decide +kernel
theorem bf186_95 : am_fetch (am_mth 186) 95 = some (.aload_n 0, 1, [], [3]) := by decide +kernel
theorem bf186_96 : am_fetch (am_mth 186) 96 = some (.aload_n 2, 1, [], [3]) := by decide +kernel
theorem bf186_97 : am_fetch (am_mth 186) 97 = some (.bipush 7, 2, [], [3]) := by decide +kernel
theorem bf186_99 : am_fetch (am_mth 186) 99 = some (.invokevirtual 232, 3, [0, 146, 2, 11, 1565, 1567, 36, 48], [3]) := by decide +kernel
theorem bf186_102 : am_fetch (am_mth 186) 102 = some (.aload_n 0, 1, [], [3]) := by decide +kernel
theorem bf186_103 : am_fetch (am_mth 186) 103 = some (.aload_n 2, 1, [], [3]) := by decide +kernel
theorem bf186_104 : am_fetch (am_mth 186) 104 = some (.bipush 8, 2, [], [3]) := by decide +kernel
theorem bf186_106 : am_fetch (am_mth 186) 106 = some (.invokevirtual 232, 3, [0, 146, 2, 11, 1565, 1567, 36, 48], [3]) := by decide +kernel
theorem bf186_109 : am_fetch (am_mth 186) 109 = some (.iadd, 1, [], [3]) := by decide +kernel
theorem bf186_110 : am_fetch (am_mth 186) 110 = some (.aload_n 0, 1, [], [3]) := by decide +kernel
theorem bf186_111 : am_fetch (am_mth 186) 111 = some (.aload_n 2, 1, [], [3]) := by decide +kernel
theorem bf186_112 : am_fetch (am_mth 186) 112 = some (.iconst 5, 1, [], [3]) := by decide +kernel
theorem bf186_113 : am_fetch (am_mth 186) 113 = some (.invokevirtual 232, 3, [0, 146, 2, 11, 1565, 1567, 36, 48], [3]) := by decide +kernel
theorem bf186_116 : am_fetch (am_mth 186) 116 = some (.aload_n 0, 1, [], [3]) := by decide +kernel
theorem bf186_117 : am_fetch (am_mth 186) 117 = some (.aload_n 2, 1, [], [3]) := by decide +kernel
theorem bf186_118 : am_fetch (am_mth 186) 118 = some (.bipush 6, 2, [], [2, 3]) := by decide +kernel
theorem bf186_120 : am_fetch (am_mth 186) 120 = some (.invokevirtual 232, 3, [0, 146, 2, 11, 1565, 1567, 36, 48], [2, 3]) := by decide +kernel
theorem bf186_123 : am_fetch (am_mth 186) 123 = some (.iadd, 1, [], [2, 3]) := by decide +kernel
theorem bf186_124 : am_fetch (am_mth 186) 124 = some (.if_icmp .eq 5, 3, [], [2, 3]) := by decide +kernel
theorem bf186_127 : am_fetch (am_mth 186) 127 = some (.iconst 0, 1, [], [0, 1, 2, 3]) := by decide +kernel
theorem bf186_128 : am_fetch (am_mth 186) 128 = some (.ireturn, 1, [1], [0, 1, 2, 3]) := by decide +kernel
theorem bf186_129 : am_fetch (am_mth 186) 129 = some (.goto (-121), 3, [], [2, 3]) := by decide +kernel
theorem bf186_132 : am_fetch (am_mth 186) 132 = some (.iconst 1, 1, [], [0, 1, 2, 3]) := by decide +kernel
theorem bf186_133 : am_fetch (am_mth 186) 133 = some (.ireturn, 1, [1], [0, 1, 2, 3]) := by decide +kernel
theorem bk186_0 {w : am_Wd} {l0 : Nat} : am_run 186 0 [some (.ref l0), none, none, none] [] w = (am_gf w l0 11 11).bind fun v => am_run 186 4 [some (.ref l0), none, none, none] (v :: []) w := by
  refine (bu (ls'' := [some (.ref l0), none, none, none]) (st' := [.ref l0]) bf186_0 bf186_1 rfl rfl).trans ?_
  exact bh bf186_1 bf186_4 rfl (fun _ _ => am_ge_rf w) rfl
theorem bk186_4 {w : am_Wd} {l0 : Nat} {s0 : Nat} : am_run 186 4 [some (.ref l0), none, none, none] [.ref s0] w = (am_kf w s0 3).bind fun _ => (am_x 105 [.ref s0] w).bind fun r => bct r fun v w' => am_run 186 7 [some (.ref l0), none, none, none] (v.toList ++ []) w' := by
  exact bkV bf186_4 bf186_7 rfl (by decide +kernel) (Nat.le_of_ble_eq_true rfl) rfl (bhd rfl)
theorem bk186_7 {w : am_Wd} {l0 : Nat} {s0 : Nat} : am_run 186 7 [some (.ref l0), none, none, none] [.ref s0] w = am_run 186 8 [some (.ref l0), some (.ref s0), none, none] [] w := by
  refine (bu (ls'' := [some (.ref l0), some (.ref s0), none, none]) (st' := []) bf186_7 bf186_8 rfl rfl).trans ?_
  rfl
theorem bk186_8 {w : am_Wd} {l0 : Nat} {l1 : Nat} : am_run 186 8 [some (.ref l0), some (.ref l1), none, none] [] w = (am_kf w l1 2).bind fun _ => (am_x 52 [.ref l1] w).bind fun r => bct r fun v w' => am_run 186 14 [some (.ref l0), some (.ref l1), none, none] (v.toList ++ []) w' := by
  refine (bu (ls'' := [some (.ref l0), some (.ref l1), none, none]) (st' := [.ref l1]) bf186_8 bf186_9 rfl rfl).trans ?_
  exact bkV bf186_9 bf186_14 rfl (by decide +kernel) (Nat.le_of_ble_eq_true rfl) rfl (bhd rfl)
theorem bk186_14 {w : am_Wd} {l0 : Nat} {l1 : Nat} {s0 : Int32} : am_run 186 14 [some (.ref l0), some (.ref l1), none, none] [.int s0] w = if s0 = nI 0 then am_run 186 132 [none, none, none, none] [] w else am_run 186 17 [some (.ref l0), some (.ref l1), none, none] [] w := by
  exact bifc bf186_14 rfl bf186_132 bf186_17 rfl rfl rfl
theorem bk186_132 {w : am_Wd}  : am_run 186 132 [none, none, none, none] [] w = some (.inl (some (.int (nI 1))), w) := by
  refine (bu (ls'' := [none, none, none, none]) (st' := [.int (nI 1)]) bf186_132 bf186_133 rfl rfl).trans ?_
  exact am_e2 bf186_133 rfl (am_ge_rf w)
theorem bk186_17 {w : am_Wd} {l0 : Nat} {l1 : Nat} : am_run 186 17 [some (.ref l0), some (.ref l1), none, none] [] w = (am_kf w l1 2).bind fun _ => (am_x 103 [.ref l1] w).bind fun r => bct r fun v w' => am_run 186 23 [some (.ref l0), some (.ref l1), none, none] (v.toList ++ []) w' := by
  refine (bu (ls'' := [some (.ref l0), some (.ref l1), none, none]) (st' := [.ref l1]) bf186_17 bf186_18 rfl rfl).trans ?_
  exact bkV bf186_18 bf186_23 rfl (by decide +kernel) (Nat.le_of_ble_eq_true rfl) rfl (bhd rfl)
theorem bk186_23 {w : am_Wd} {l0 : Nat} {l1 : Nat} {s0 : Nat} : am_run 186 23 [some (.ref l0), some (.ref l1), none, none] [.ref s0] w = (am_kf w s0 10).bind fun _ => am_run 186 26 [some (.ref l0), some (.ref l1), none, none] [.ref s0] w := by
  exact bh bf186_23 bf186_26 rfl (fun _ _ => am_ge_rf w) rfl
theorem bk186_26 {w : am_Wd} {l0 : Nat} {l1 : Nat} {s0 : Nat} : am_run 186 26 [some (.ref l0), some (.ref l1), none, none] [.ref s0] w = (am_kf w s0 10).bind fun _ => (am_x 37 [.ref s0] w).bind fun r => bct r fun v w' => am_run 186 31 [some (.ref l0), some (.ref l1), some (.ref s0), none] (v.toList ++ []) w' := by
  refine (bu (ls'' := [some (.ref l0), some (.ref l1), some (.ref s0), none]) (st' := []) bf186_26 bf186_27 rfl rfl).trans ?_
  refine (bu (ls'' := [some (.ref l0), some (.ref l1), some (.ref s0), none]) (st' := [.ref s0]) bf186_27 bf186_28 rfl rfl).trans ?_
  exact bkV bf186_28 bf186_31 rfl (by decide +kernel) (Nat.le_of_ble_eq_true rfl) rfl (bhd rfl)
theorem bk186_31 {w : am_Wd} {l0 : Nat} {l1 : Nat} {l2 : Nat} {s0 : Int32} : am_run 186 31 [some (.ref l0), some (.ref l1), some (.ref l2), none] [.int s0] w = (am_x 39 [.int s0, .int (nI 1), .int (nI 144)] w).bind fun r => bct r fun v w' => am_run 186 38 [some (.ref l0), some (.ref l1), some (.ref l2), none] (v.toList ++ []) w' := by
  refine (bu (ls'' := [some (.ref l0), some (.ref l1), some (.ref l2), none]) (st' := [.int (nI 1), .int s0]) bf186_31 bf186_32 rfl rfl).trans ?_
  refine (bu (ls'' := [some (.ref l0), some (.ref l1), some (.ref l2), none]) (st' := [.int (nI 144), .int (nI 1), .int s0]) bf186_32 bf186_35 rfl rfl).trans ?_
  exact bkS bf186_35 bf186_38 rfl (by decide +kernel) (Nat.le_of_ble_eq_true rfl) rfl (bhd rfl)
theorem bk186_38 {w : am_Wd} {l0 : Nat} {l1 : Nat} {l2 : Nat} {s0 : Int32} : am_run 186 38 [some (.ref l0), some (.ref l1), some (.ref l2), none] [.int s0] w = if s0 = nI 0 then am_run 186 89 [some (.ref l0), some (.ref l1), some (.ref l2), none] [] w else am_run 186 41 [some (.ref l0), some (.ref l1), some (.ref l2), none] [] w := by
  exact bifc bf186_38 rfl bf186_89 bf186_41 rfl rfl rfl
theorem bk186_89 {w : am_Wd} {l0 : Nat} {l1 : Nat} {l2 : Nat} : am_run 186 89 [some (.ref l0), some (.ref l1), some (.ref l2), none] [] w = am_run 186 90 [some (.ref l0), some (.ref l1), some (.ref l2), none] [.int (nI 0)] w := by
  refine (bu (ls'' := [some (.ref l0), some (.ref l1), some (.ref l2), none]) (st' := [.int (nI 0)]) bf186_89 bf186_90 rfl rfl).trans ?_
  rfl
theorem bk186_41 {w : am_Wd} {l0 : Nat} {l1 : Nat} {l2 : Nat} : am_run 186 41 [some (.ref l0), some (.ref l1), some (.ref l2), none] [] w = (am_gf w l2 10 2).bind fun v => am_run 186 45 [some (.ref l0), some (.ref l1), some (.ref l2), none] (v :: []) w := by
  refine (bu (ls'' := [some (.ref l0), some (.ref l1), some (.ref l2), none]) (st' := [.ref l2]) bf186_41 bf186_42 rfl rfl).trans ?_
  exact bh bf186_42 bf186_45 rfl (fun _ _ => am_ge_rf w) rfl
theorem bk186_90 {w : am_Wd} {l0 : Nat} {l1 : Nat} {l2 : Nat} {s0 : Int32} : am_run 186 90 [some (.ref l0), some (.ref l1), some (.ref l2), none] [.int s0] w = if s0 = nI 0 then am_run 186 127 [none, none, none, none] [] w else am_run 186 95 [some (.ref l0), some (.ref l1), some (.ref l2), none] [] w := by
  refine (bu (ls'' := [some (.ref l0), some (.ref l1), some (.ref l2), some (.int s0)]) (st' := []) bf186_90 bf186_91 rfl rfl).trans ?_
  refine (bu (ls'' := [some (.ref l0), some (.ref l1), some (.ref l2), none]) (st' := [.int s0]) bf186_91 bf186_92 rfl rfl).trans ?_
  exact bifc bf186_92 rfl bf186_127 bf186_95 rfl rfl rfl
theorem bk186_45 {w : am_Wd} {l0 : Nat} {l1 : Nat} {l2 : Nat} {s0 : Int32} : am_run 186 45 [some (.ref l0), some (.ref l1), some (.ref l2), none] [.int s0] w = (am_x 39 [.int s0, .int (nI 0), .int (nI 500)] w).bind fun r => bct r fun v w' => am_run 186 52 [some (.ref l0), some (.ref l1), some (.ref l2), none] (v.toList ++ []) w' := by
  refine (bu (ls'' := [some (.ref l0), some (.ref l1), some (.ref l2), none]) (st' := [.int (nI 0), .int s0]) bf186_45 bf186_46 rfl rfl).trans ?_
  refine (bu (ls'' := [some (.ref l0), some (.ref l1), some (.ref l2), none]) (st' := [.int (nI 500), .int (nI 0), .int s0]) bf186_46 bf186_49 rfl rfl).trans ?_
  exact bkS bf186_49 bf186_52 rfl (by decide +kernel) (Nat.le_of_ble_eq_true rfl) rfl (bhd rfl)
theorem bk186_127 {w : am_Wd}  : am_run 186 127 [none, none, none, none] [] w = some (.inl (some (.int (nI 0))), w) := by
  refine (bu (ls'' := [none, none, none, none]) (st' := [.int (nI 0)]) bf186_127 bf186_128 rfl rfl).trans ?_
  exact am_e2 bf186_128 rfl (am_ge_rf w)
theorem bk186_95 {w : am_Wd} {l0 : Nat} {l1 : Nat} {l2 : Nat} : am_run 186 95 [some (.ref l0), some (.ref l1), some (.ref l2), none] [] w = (am_kf w l0 11).bind fun _ => (am_x 146 [.ref l0, .ref l2, .int (nI 7)] w).bind fun r => bct r fun v w' => am_run 186 102 [some (.ref l0), some (.ref l1), some (.ref l2), none] (v.toList ++ []) w' := by
  refine (bu (ls'' := [some (.ref l0), some (.ref l1), some (.ref l2), none]) (st' := [.ref l0]) bf186_95 bf186_96 rfl rfl).trans ?_
  refine (bu (ls'' := [some (.ref l0), some (.ref l1), some (.ref l2), none]) (st' := [.ref l2, .ref l0]) bf186_96 bf186_97 rfl rfl).trans ?_
  refine (bu (ls'' := [some (.ref l0), some (.ref l1), some (.ref l2), none]) (st' := [.int (nI 7), .ref l2, .ref l0]) bf186_97 bf186_99 rfl rfl).trans ?_
  exact bkV bf186_99 bf186_102 rfl (by decide +kernel) (Nat.le_of_ble_eq_true rfl) rfl (bhd rfl)
theorem bk186_52 {w : am_Wd} {l0 : Nat} {l1 : Nat} {l2 : Nat} {s0 : Int32} : am_run 186 52 [some (.ref l0), some (.ref l1), some (.ref l2), none] [.int s0] w = if s0 = nI 0 then am_run 186 89 [some (.ref l0), some (.ref l1), some (.ref l2), none] [] w else am_run 186 55 [some (.ref l0), some (.ref l1), some (.ref l2), none] [] w := by
  exact bifc bf186_52 rfl bf186_89 bf186_55 rfl rfl rfl
theorem bk186_102 {w : am_Wd} {l0 : Nat} {l1 : Nat} {l2 : Nat} {s0 : Int32} : am_run 186 102 [some (.ref l0), some (.ref l1), some (.ref l2), none] [.int s0] w = (am_kf w l0 11).bind fun _ => (am_x 146 [.ref l0, .ref l2, .int (nI 8)] w).bind fun r => bct r fun v w' => am_run 186 109 [some (.ref l0), some (.ref l1), some (.ref l2), none] (v.toList ++ [.int s0]) w' := by
  refine (bu (ls'' := [some (.ref l0), some (.ref l1), some (.ref l2), none]) (st' := [.ref l0, .int s0]) bf186_102 bf186_103 rfl rfl).trans ?_
  refine (bu (ls'' := [some (.ref l0), some (.ref l1), some (.ref l2), none]) (st' := [.ref l2, .ref l0, .int s0]) bf186_103 bf186_104 rfl rfl).trans ?_
  refine (bu (ls'' := [some (.ref l0), some (.ref l1), some (.ref l2), none]) (st' := [.int (nI 8), .ref l2, .ref l0, .int s0]) bf186_104 bf186_106 rfl rfl).trans ?_
  exact bkV bf186_106 bf186_109 rfl (by decide +kernel) (Nat.le_of_ble_eq_true rfl) rfl (bhd rfl)
theorem bk186_55 {w : am_Wd} {l0 : Nat} {l1 : Nat} {l2 : Nat} : am_run 186 55 [some (.ref l0), some (.ref l1), some (.ref l2), none] [] w = (am_gf w l2 10 0).bind fun v => am_run 186 59 [some (.ref l0), some (.ref l1), some (.ref l2), none] (v :: []) w := by
  refine (bu (ls'' := [some (.ref l0), some (.ref l1), some (.ref l2), none]) (st' := [.ref l2]) bf186_55 bf186_56 rfl rfl).trans ?_
  exact bh bf186_56 bf186_59 rfl (fun _ _ => am_ge_rf w) rfl
theorem bk186_109 {w : am_Wd} {l0 : Nat} {l1 : Nat} {l2 : Nat} {s0 : Int32} {s1 : Int32} : am_run 186 109 [some (.ref l0), some (.ref l1), some (.ref l2), none] [.int s0, .int s1] w = (am_kf w l0 11).bind fun _ => (am_x 146 [.ref l0, .ref l2, .int (nI 5)] w).bind fun r => bct r fun v w' => am_run 186 116 [some (.ref l0), some (.ref l1), some (.ref l2), none] (v.toList ++ [.int (s1 + s0)]) w' := by
  refine (bu (ls'' := [some (.ref l0), some (.ref l1), some (.ref l2), none]) (st' := [.int (s1 + s0)]) bf186_109 bf186_110 rfl rfl).trans ?_
  refine (bu (ls'' := [some (.ref l0), some (.ref l1), some (.ref l2), none]) (st' := [.ref l0, .int (s1 + s0)]) bf186_110 bf186_111 rfl rfl).trans ?_
  refine (bu (ls'' := [some (.ref l0), some (.ref l1), some (.ref l2), none]) (st' := [.ref l2, .ref l0, .int (s1 + s0)]) bf186_111 bf186_112 rfl rfl).trans ?_
  refine (bu (ls'' := [some (.ref l0), some (.ref l1), some (.ref l2), none]) (st' := [.int (nI 5), .ref l2, .ref l0, .int (s1 + s0)]) bf186_112 bf186_113 rfl rfl).trans ?_
  exact bkV bf186_113 bf186_116 rfl (by decide +kernel) (Nat.le_of_ble_eq_true rfl) rfl (bhd rfl)
theorem bk186_59 {w : am_Wd} {l0 : Nat} {l1 : Nat} {l2 : Nat} {s0 : Int32} : am_run 186 59 [some (.ref l0), some (.ref l1), some (.ref l2), none] [.int s0] w = (am_x 39 [.int s0, .int (nI 0), .int (nI 143)] w).bind fun r => bct r fun v w' => am_run 186 66 [some (.ref l0), some (.ref l1), some (.ref l2), none] (v.toList ++ []) w' := by
  refine (bu (ls'' := [some (.ref l0), some (.ref l1), some (.ref l2), none]) (st' := [.int (nI 0), .int s0]) bf186_59 bf186_60 rfl rfl).trans ?_
  refine (bu (ls'' := [some (.ref l0), some (.ref l1), some (.ref l2), none]) (st' := [.int (nI 143), .int (nI 0), .int s0]) bf186_60 bf186_63 rfl rfl).trans ?_
  exact bkS bf186_63 bf186_66 rfl (by decide +kernel) (Nat.le_of_ble_eq_true rfl) rfl (bhd rfl)
theorem bk186_116 {w : am_Wd} {l0 : Nat} {l1 : Nat} {l2 : Nat} {s0 : Int32} {s1 : Int32} : am_run 186 116 [some (.ref l0), some (.ref l1), some (.ref l2), none] [.int s0, .int s1] w = (am_kf w l0 11).bind fun _ => (am_x 146 [.ref l0, .ref l2, .int (nI 6)] w).bind fun r => bct r fun v w' => am_run 186 123 [some (.ref l0), some (.ref l1), none, none] (v.toList ++ [.int s0, .int s1]) w' := by
  refine (bu (ls'' := [some (.ref l0), some (.ref l1), some (.ref l2), none]) (st' := [.ref l0, .int s0, .int s1]) bf186_116 bf186_117 rfl rfl).trans ?_
  refine (bu (ls'' := [some (.ref l0), some (.ref l1), none, none]) (st' := [.ref l2, .ref l0, .int s0, .int s1]) bf186_117 bf186_118 rfl rfl).trans ?_
  refine (bu (ls'' := [some (.ref l0), some (.ref l1), none, none]) (st' := [.int (nI 6), .ref l2, .ref l0, .int s0, .int s1]) bf186_118 bf186_120 rfl rfl).trans ?_
  exact bkV bf186_120 bf186_123 rfl (by decide +kernel) (Nat.le_of_ble_eq_true rfl) rfl (bhd rfl)
theorem bk186_66 {w : am_Wd} {l0 : Nat} {l1 : Nat} {l2 : Nat} {s0 : Int32} : am_run 186 66 [some (.ref l0), some (.ref l1), some (.ref l2), none] [.int s0] w = if s0 = nI 0 then am_run 186 89 [some (.ref l0), some (.ref l1), some (.ref l2), none] [] w else am_run 186 69 [some (.ref l0), some (.ref l1), some (.ref l2), none] [] w := by
  exact bifc bf186_66 rfl bf186_89 bf186_69 rfl rfl rfl
theorem bk186_123 {w : am_Wd} {l0 : Nat} {l1 : Nat} {s0 : Int32} {s1 : Int32} {s2 : Int32} : am_run 186 123 [some (.ref l0), some (.ref l1), none, none] [.int s0, .int s1, .int s2] w = if s2 = (s1 + s0) then am_run 186 129 [some (.ref l0), some (.ref l1), none, none] [] w else am_run 186 127 [none, none, none, none] [] w := by
  refine (bu (ls'' := [some (.ref l0), some (.ref l1), none, none]) (st' := [.int (s1 + s0), .int s2]) bf186_123 bf186_124 rfl rfl).trans ?_
  exact bic bf186_124 rfl bf186_129 bf186_127 rfl rfl rfl
theorem bk186_69 {w : am_Wd} {l0 : Nat} {l1 : Nat} {l2 : Nat} : am_run 186 69 [some (.ref l0), some (.ref l1), some (.ref l2), none] [] w = (am_gf w l2 10 6).bind fun v => am_run 186 73 [some (.ref l0), some (.ref l1), some (.ref l2), none] (v :: []) w := by
  refine (bu (ls'' := [some (.ref l0), some (.ref l1), some (.ref l2), none]) (st' := [.ref l2]) bf186_69 bf186_70 rfl rfl).trans ?_
  exact bh bf186_70 bf186_73 rfl (fun _ _ => am_ge_rf w) rfl
theorem bk186_129 {w : am_Wd} {l0 : Nat} {l1 : Nat} : am_run 186 129 [some (.ref l0), some (.ref l1), none, none] [] w = am_run 186 8 [some (.ref l0), some (.ref l1), none, none] [] w := by
  refine (bu (ls'' := [some (.ref l0), some (.ref l1), none, none]) (st' := []) bf186_129 bf186_8 rfl rfl).trans ?_
  rfl
theorem bk186_73 {w : am_Wd} {l0 : Nat} {l1 : Nat} {l2 : Nat} {s0 : Int32} : am_run 186 73 [some (.ref l0), some (.ref l1), some (.ref l2), none] [.int s0] w = (am_gf w l2 10 7).bind fun v => am_run 186 77 [some (.ref l0), some (.ref l1), some (.ref l2), none] (v :: [.int s0]) w := by
  refine (bu (ls'' := [some (.ref l0), some (.ref l1), some (.ref l2), none]) (st' := [.ref l2, .int s0]) bf186_73 bf186_74 rfl rfl).trans ?_
  exact bh bf186_74 bf186_77 rfl (fun _ _ => am_ge_rf w) rfl
theorem bk186_77 {w : am_Wd} {l0 : Nat} {l1 : Nat} {l2 : Nat} {s0 : Int32} {s1 : Int32} : am_run 186 77 [some (.ref l0), some (.ref l1), some (.ref l2), none] [.int s0, .int s1] w = (am_gf w l2 10 8).bind fun v => am_run 186 81 [some (.ref l0), some (.ref l1), some (.ref l2), none] (v :: [.int s0, .int s1]) w := by
  refine (bu (ls'' := [some (.ref l0), some (.ref l1), some (.ref l2), none]) (st' := [.ref l2, .int s0, .int s1]) bf186_77 bf186_78 rfl rfl).trans ?_
  exact bh bf186_78 bf186_81 rfl (fun _ _ => am_ge_rf w) rfl
theorem bk186_81 {w : am_Wd} {l0 : Nat} {l1 : Nat} {l2 : Nat} {s0 : Int32} {s1 : Int32} {s2 : Int32} : am_run 186 81 [some (.ref l0), some (.ref l1), some (.ref l2), none] [.int s0, .int s1, .int s2] w = if s2 < (s1 + s0) then am_run 186 89 [some (.ref l0), some (.ref l1), some (.ref l2), none] [] w else am_run 186 85 [some (.ref l0), some (.ref l1), some (.ref l2), none] [] w := by
  refine (bu (ls'' := [some (.ref l0), some (.ref l1), some (.ref l2), none]) (st' := [.int (s1 + s0), .int s2]) bf186_81 bf186_82 rfl rfl).trans ?_
  exact bic bf186_82 rfl bf186_89 bf186_85 rfl rfl rfl
theorem bk186_85 {w : am_Wd} {l0 : Nat} {l1 : Nat} {l2 : Nat} : am_run 186 85 [some (.ref l0), some (.ref l1), some (.ref l2), none] [] w = am_run 186 90 [some (.ref l0), some (.ref l1), some (.ref l2), none] [.int (nI 1)] w := by
  refine (bu (ls'' := [some (.ref l0), some (.ref l1), some (.ref l2), none]) (st' := [.int (nI 1)]) bf186_85 bf186_86 rfl rfl).trans ?_
  refine (bu (ls'' := [some (.ref l0), some (.ref l1), some (.ref l2), none]) (st' := [.int (nI 1)]) bf186_86 bf186_90 rfl rfl).trans ?_
  rfl
theorem bf187_0 : am_fetch (am_mth 187) 0 = some (.aload_n 3, 1, [], [4]) := by decide +kernel
theorem bf187_1 : am_fetch (am_mth 187) 1 = some (.aload_n 0, 1, [], [3, 4]) := by decide +kernel
theorem bf187_2 : am_fetch (am_mth 187) 2 = some (.iload_n 1, 1, [], [0, 3, 4]) := by decide +kernel
theorem bf187_3 : am_fetch (am_mth 187) 3 = some (.iload_n 2, 1, [], [0, 1, 3, 4]) := by decide +kernel
theorem bf187_4 : am_fetch (am_mth 187) 4 = some (.invokevirtual 51, 3, [0, 133, 2, 8, 773, 774, 775, 46], [0, 1, 2, 3, 4]) := by decide +kernel
theorem bf187_7 : am_fetch (am_mth 187) 7 = some (.i2l, 1, [], [0, 1, 2, 3, 4]) := by decide +kernel
theorem bf187_8 : am_fetch (am_mth 187) 8 = some (.putfield 13, 3, [1, 9, 0, 485], [0, 1, 2, 3, 4]) := by decide +kernel
theorem bf187_11 : am_fetch (am_mth 187) 11 = some (.goto 15, 3, [], [0, 1, 2, 3, 4]) := by decide +kernel
theorem bf187_14 : am_fetch (am_mth 187) 14 = some (.astore 4, 2, [], [0, 1, 2, 3, 4]) := by decide +kernel
theorem bf187_16 : am_fetch (am_mth 187) 16 = some (.iconst 1, 1, [], [0, 1, 2, 3, 4]) := by decide +kernel
theorem bf187_17 : am_fetch (am_mth 187) 17 = some (.ireturn, 1, [0], [0, 1, 2, 3, 4]) := by decide +kernel
theorem bf187_18 : am_fetch (am_mth 187) 18 = some (.astore 4, 2, [], [0, 1, 2, 3, 4]) := by decide +kernel
theorem bf187_20 : am_fetch (am_mth 187) 20 = some (.iconst 2, 1, [], [0, 1, 2, 3, 4]) := by decide +kernel
theorem bf187_21 : am_fetch (am_mth 187) 21 = some (.ireturn, 1, [0], [0, 1, 2, 3, 4]) := by decide +kernel
theorem bf187_22 : am_fetch (am_mth 187) 22 = some (.astore 4, 2, [], [0, 1, 2, 3, 4]) := by decide +kernel
theorem bf187_24 : am_fetch (am_mth 187) 24 = some (.iconst 3, 1, [], [0, 1, 2, 3, 4]) := by decide +kernel
theorem bf187_25 : am_fetch (am_mth 187) 25 = some (.ireturn, 1, [0], [0, 1, 2, 3, 4]) := by decide +kernel
theorem bf187_26 : am_fetch (am_mth 187) 26 = some (.iconst 0, 1, [], [0, 1, 2, 3, 4]) := by decide +kernel
theorem bf187_27 : am_fetch (am_mth 187) 27 = some (.ireturn, 1, [0], [0, 1, 2, 3, 4]) := by decide +kernel
theorem bk187_0 {w : am_Wd} {l0 : Nat} {l1 : Int32} {l2 : Int32} {l3 : Nat} : am_run 187 0 [some (.ref l0), some (.int l1), some (.int l2), some (.ref l3), none] [] w = (am_kf w l0 8).bind fun _ => (am_x 133 [.ref l0, .int l1, .int l2] w).bind fun r => am_af 187 4 r (fun v w' => am_run 187 7 [none, none, none, none, none] (v.toList ++ [.ref l3]) w') (fun h w' => am_run 187 h (am_nrm 187 h [none, none, none, none, none]) [] w') := by
  refine (bu (ls'' := [some (.ref l0), some (.int l1), some (.int l2), none, none]) (st' := [.ref l3]) bf187_0 bf187_1 rfl rfl).trans ?_
  refine (bu (ls'' := [none, some (.int l1), some (.int l2), none, none]) (st' := [.ref l0, .ref l3]) bf187_1 bf187_2 rfl rfl).trans ?_
  refine (bu (ls'' := [none, none, some (.int l2), none, none]) (st' := [.int l1, .ref l0, .ref l3]) bf187_2 bf187_3 rfl rfl).trans ?_
  refine (bu (ls'' := [none, none, none, none, none]) (st' := [.int l2, .int l1, .ref l0, .ref l3]) bf187_3 bf187_4 rfl rfl).trans ?_
  exact bkHV bf187_4 bf187_7 rfl (by decide +kernel) (Nat.le_of_ble_eq_true rfl) rfl
theorem bk187_7 {w : am_Wd} {s0 : Int32} {s1 : Nat} : am_run 187 7 [none, none, none, none, none] [.int s0, .ref s1] w = (am_pf w s1 9 0 (.long (Int32.toInt64 s0))).bind fun w' => am_run 187 11 [none, none, none, none, none] [] w' := by
  refine (bu (ls'' := [none, none, none, none, none]) (st' := [.long (Int32.toInt64 s0), .ref s1]) bf187_7 bf187_8 rfl rfl).trans ?_
  exact bh bf187_8 bf187_11 rfl (bge_pf) rfl
theorem bk187_16 {w : am_Wd}  : am_run 187 16 [none, none, none, none, none] [] w = some (.inl (some (.int (nI 1))), w) := by
  refine (bu (ls'' := [none, none, none, none, none]) (st' := [.int (nI 1)]) bf187_16 bf187_17 rfl rfl).trans ?_
  exact am_e2 bf187_17 rfl (am_ge_rf w)
theorem bk187_20 {w : am_Wd}  : am_run 187 20 [none, none, none, none, none] [] w = some (.inl (some (.int (nI 2))), w) := by
  refine (bu (ls'' := [none, none, none, none, none]) (st' := [.int (nI 2)]) bf187_20 bf187_21 rfl rfl).trans ?_
  exact am_e2 bf187_21 rfl (am_ge_rf w)
theorem bk187_24 {w : am_Wd}  : am_run 187 24 [none, none, none, none, none] [] w = some (.inl (some (.int (nI 3))), w) := by
  refine (bu (ls'' := [none, none, none, none, none]) (st' := [.int (nI 3)]) bf187_24 bf187_25 rfl rfl).trans ?_
  exact am_e2 bf187_25 rfl (am_ge_rf w)
theorem bk187_11 {w : am_Wd}  : am_run 187 11 [none, none, none, none, none] [] w = some (.inl (some (.int (nI 0))), w) := by
  refine (bu (ls'' := [none, none, none, none, none]) (st' := []) bf187_11 bf187_26 rfl rfl).trans ?_
  refine (bu (ls'' := [none, none, none, none, none]) (st' := [.int (nI 0)]) bf187_26 bf187_27 rfl rfl).trans ?_
  exact am_e2 bf187_27 rfl (am_ge_rf w)
theorem bf188_0 : am_fetch (am_mth 188) 0 = some (.aload_n 2, 1, [], [3]) := by decide +kernel
theorem bf188_1 : am_fetch (am_mth 188) 1 = some (.aload_n 0, 1, [], [2, 3]) := by decide +kernel
theorem bf188_2 : am_fetch (am_mth 188) 2 = some (.iload_n 1, 1, [], [0, 2, 3]) := by decide +kernel
theorem bf188_3 : am_fetch (am_mth 188) 3 = some (.invokevirtual 55, 3, [0, 134, 1, 8, 781, 782, 783, 46], [0, 1, 2, 3]) := by decide +kernel
theorem bf188_6 : am_fetch (am_mth 188) 6 = some (.i2l, 1, [], [0, 1, 2, 3]) := by decide +kernel
theorem bf188_7 : am_fetch (am_mth 188) 7 = some (.putfield 13, 3, [1, 9, 0, 485], [0, 1, 2, 3]) := by decide +kernel
theorem bf188_10 : am_fetch (am_mth 188) 10 = some (.goto 6, 3, [], [0, 1, 2, 3]) := by decide +kernel
theorem bf188_13 : am_fetch (am_mth 188) 13 = some (.astore_n 3, 1, [], [0, 1, 2, 3]) := by decide +kernel
theorem bf188_14 : am_fetch (am_mth 188) 14 = some (.iconst 1, 1, [], [0, 1, 2, 3]) := by decide +kernel
theorem bf188_15 : am_fetch (am_mth 188) 15 = some (.ireturn, 1, [0], [0, 1, 2, 3]) := by decide +kernel
theorem bf188_16 : am_fetch (am_mth 188) 16 = some (.iconst 0, 1, [], [0, 1, 2, 3]) := by decide +kernel
theorem bf188_17 : am_fetch (am_mth 188) 17 = some (.ireturn, 1, [0], [0, 1, 2, 3]) := by decide +kernel
theorem bk188_0 {w : am_Wd} {l0 : Nat} {l1 : Int32} {l2 : Nat} : am_run 188 0 [some (.ref l0), some (.int l1), some (.ref l2), none] [] w = (am_kf w l0 8).bind fun _ => (am_x 134 [.ref l0, .int l1] w).bind fun r => am_af 188 3 r (fun v w' => am_run 188 6 [none, none, none, none] (v.toList ++ [.ref l2]) w') (fun h w' => am_run 188 h (am_nrm 188 h [none, none, none, none]) [] w') := by
  refine (bu (ls'' := [some (.ref l0), some (.int l1), none, none]) (st' := [.ref l2]) bf188_0 bf188_1 rfl rfl).trans ?_
  refine (bu (ls'' := [none, some (.int l1), none, none]) (st' := [.ref l0, .ref l2]) bf188_1 bf188_2 rfl rfl).trans ?_
  refine (bu (ls'' := [none, none, none, none]) (st' := [.int l1, .ref l0, .ref l2]) bf188_2 bf188_3 rfl rfl).trans ?_
  exact bkHV bf188_3 bf188_6 rfl (by decide +kernel) (Nat.le_of_ble_eq_true rfl) rfl
theorem bk188_6 {w : am_Wd} {s0 : Int32} {s1 : Nat} : am_run 188 6 [none, none, none, none] [.int s0, .ref s1] w = (am_pf w s1 9 0 (.long (Int32.toInt64 s0))).bind fun w' => am_run 188 10 [none, none, none, none] [] w' := by
  refine (bu (ls'' := [none, none, none, none]) (st' := [.long (Int32.toInt64 s0), .ref s1]) bf188_6 bf188_7 rfl rfl).trans ?_
  exact bh bf188_7 bf188_10 rfl (bge_pf) rfl
theorem bk188_14 {w : am_Wd}  : am_run 188 14 [none, none, none, none] [] w = some (.inl (some (.int (nI 1))), w) := by
  refine (bu (ls'' := [none, none, none, none]) (st' := [.int (nI 1)]) bf188_14 bf188_15 rfl rfl).trans ?_
  exact am_e2 bf188_15 rfl (am_ge_rf w)
theorem bk188_10 {w : am_Wd}  : am_run 188 10 [none, none, none, none] [] w = some (.inl (some (.int (nI 0))), w) := by
  refine (bu (ls'' := [none, none, none, none]) (st' := []) bf188_10 bf188_16 rfl rfl).trans ?_
  refine (bu (ls'' := [none, none, none, none]) (st' := [.int (nI 0)]) bf188_16 bf188_17 rfl rfl).trans ?_
  exact am_e2 bf188_17 rfl (am_ge_rf w)
theorem bf189_0 : am_fetch (am_mth 189) 0 = some (.aload_n 2, 1, [], [3]) := by decide +kernel
theorem bf189_1 : am_fetch (am_mth 189) 1 = some (.aload_n 0, 1, [], [2, 3]) := by decide +kernel
theorem bf189_2 : am_fetch (am_mth 189) 2 = some (.iload_n 1, 1, [], [0, 2, 3]) := by decide +kernel
theorem bf189_3 : am_fetch (am_mth 189) 3 = some (.invokevirtual 61, 3, [0, 135, 1, 8, 810, 811, 812, 46], [0, 1, 2, 3]) := by decide +kernel
theorem bf189_6 : am_fetch (am_mth 189) 6 = some (.i2l, 1, [], [0, 1, 2, 3]) := by decide +kernel
theorem bf189_7 : am_fetch (am_mth 189) 7 = some (.putfield 13, 3, [1, 9, 0, 485], [0, 1, 2, 3]) := by decide +kernel
theorem bf189_10 : am_fetch (am_mth 189) 10 = some (.goto 9, 3, [], [0, 1, 2, 3]) := by decide +kernel
theorem bf189_13 : am_fetch (am_mth 189) 13 = some (.astore_n 3, 1, [], [0, 1, 2, 3]) := by decide +kernel
theorem bf189_14 : am_fetch (am_mth 189) 14 = some (.iconst 1, 1, [], [0, 1, 2, 3]) := by decide +kernel
theorem bf189_15 : am_fetch (am_mth 189) 15 = some (.ireturn, 1, [0], [0, 1, 2, 3]) := by decide +kernel
theorem bf189_16 : am_fetch (am_mth 189) 16 = some (.astore_n 3, 1, [], [0, 1, 2, 3]) := by decide +kernel
theorem bf189_17 : am_fetch (am_mth 189) 17 = some (.iconst 2, 1, [], [0, 1, 2, 3]) := by decide +kernel
theorem bf189_18 : am_fetch (am_mth 189) 18 = some (.ireturn, 1, [0], [0, 1, 2, 3]) := by decide +kernel
theorem bf189_19 : am_fetch (am_mth 189) 19 = some (.iconst 0, 1, [], [0, 1, 2, 3]) := by decide +kernel
theorem bf189_20 : am_fetch (am_mth 189) 20 = some (.ireturn, 1, [0], [0, 1, 2, 3]) := by decide +kernel
theorem bk189_0 {w : am_Wd} {l0 : Nat} {l1 : Int32} {l2 : Nat} : am_run 189 0 [some (.ref l0), some (.int l1), some (.ref l2), none] [] w = (am_kf w l0 8).bind fun _ => (am_x 135 [.ref l0, .int l1] w).bind fun r => am_af 189 3 r (fun v w' => am_run 189 6 [none, none, none, none] (v.toList ++ [.ref l2]) w') (fun h w' => am_run 189 h (am_nrm 189 h [none, none, none, none]) [] w') := by
  refine (bu (ls'' := [some (.ref l0), some (.int l1), none, none]) (st' := [.ref l2]) bf189_0 bf189_1 rfl rfl).trans ?_
  refine (bu (ls'' := [none, some (.int l1), none, none]) (st' := [.ref l0, .ref l2]) bf189_1 bf189_2 rfl rfl).trans ?_
  refine (bu (ls'' := [none, none, none, none]) (st' := [.int l1, .ref l0, .ref l2]) bf189_2 bf189_3 rfl rfl).trans ?_
  exact bkHV bf189_3 bf189_6 rfl (by decide +kernel) (Nat.le_of_ble_eq_true rfl) rfl
theorem bk189_6 {w : am_Wd} {s0 : Int32} {s1 : Nat} : am_run 189 6 [none, none, none, none] [.int s0, .ref s1] w = (am_pf w s1 9 0 (.long (Int32.toInt64 s0))).bind fun w' => am_run 189 10 [none, none, none, none] [] w' := by
  refine (bu (ls'' := [none, none, none, none]) (st' := [.long (Int32.toInt64 s0), .ref s1]) bf189_6 bf189_7 rfl rfl).trans ?_
  exact bh bf189_7 bf189_10 rfl (bge_pf) rfl
theorem bk189_14 {w : am_Wd}  : am_run 189 14 [none, none, none, none] [] w = some (.inl (some (.int (nI 1))), w) := by
  refine (bu (ls'' := [none, none, none, none]) (st' := [.int (nI 1)]) bf189_14 bf189_15 rfl rfl).trans ?_
  exact am_e2 bf189_15 rfl (am_ge_rf w)
theorem bk189_17 {w : am_Wd}  : am_run 189 17 [none, none, none, none] [] w = some (.inl (some (.int (nI 2))), w) := by
  refine (bu (ls'' := [none, none, none, none]) (st' := [.int (nI 2)]) bf189_17 bf189_18 rfl rfl).trans ?_
  exact am_e2 bf189_18 rfl (am_ge_rf w)
theorem bk189_10 {w : am_Wd}  : am_run 189 10 [none, none, none, none] [] w = some (.inl (some (.int (nI 0))), w) := by
  refine (bu (ls'' := [none, none, none, none]) (st' := []) bf189_10 bf189_19 rfl rfl).trans ?_
  refine (bu (ls'' := [none, none, none, none]) (st' := [.int (nI 0)]) bf189_19 bf189_20 rfl rfl).trans ?_
  exact am_e2 bf189_20 rfl (am_ge_rf w)
theorem bf190_0 : am_fetch (am_mth 190) 0 = some (.aload_n 2, 1, [], [3]) := by decide +kernel
theorem bf190_1 : am_fetch (am_mth 190) 1 = some (.aload_n 0, 1, [], [2, 3]) := by decide +kernel
theorem bf190_2 : am_fetch (am_mth 190) 2 = some (.iload_n 1, 1, [], [0, 2, 3]) := by decide +kernel
theorem bf190_3 : am_fetch (am_mth 190) 3 = some (.invokevirtual 71, 3, [0, 136, 1, 8, 826, 217, 218, 46], [0, 1, 2, 3]) := by decide +kernel
theorem bf190_6 : am_fetch (am_mth 190) 6 = some (.i2l, 1, [], [0, 1, 2, 3]) := by decide +kernel
theorem bf190_7 : am_fetch (am_mth 190) 7 = some (.putfield 13, 3, [1, 9, 0, 485], [0, 1, 2, 3]) := by decide +kernel
theorem bf190_10 : am_fetch (am_mth 190) 10 = some (.goto 6, 3, [], [0, 1, 2, 3]) := by decide +kernel
theorem bf190_13 : am_fetch (am_mth 190) 13 = some (.astore_n 3, 1, [], [0, 1, 2, 3]) := by decide +kernel
theorem bf190_14 : am_fetch (am_mth 190) 14 = some (.iconst 1, 1, [], [0, 1, 2, 3]) := by decide +kernel
theorem bf190_15 : am_fetch (am_mth 190) 15 = some (.ireturn, 1, [0], [0, 1, 2, 3]) := by decide +kernel
theorem bf190_16 : am_fetch (am_mth 190) 16 = some (.iconst 0, 1, [], [0, 1, 2, 3]) := by decide +kernel
theorem bf190_17 : am_fetch (am_mth 190) 17 = some (.ireturn, 1, [0], [0, 1, 2, 3]) := by decide +kernel
theorem bk190_0 {w : am_Wd} {l0 : Nat} {l1 : Int32} {l2 : Nat} : am_run 190 0 [some (.ref l0), some (.int l1), some (.ref l2), none] [] w = (am_kf w l0 8).bind fun _ => (am_x 136 [.ref l0, .int l1] w).bind fun r => am_af 190 3 r (fun v w' => am_run 190 6 [none, none, none, none] (v.toList ++ [.ref l2]) w') (fun h w' => am_run 190 h (am_nrm 190 h [none, none, none, none]) [] w') := by
  refine (bu (ls'' := [some (.ref l0), some (.int l1), none, none]) (st' := [.ref l2]) bf190_0 bf190_1 rfl rfl).trans ?_
  refine (bu (ls'' := [none, some (.int l1), none, none]) (st' := [.ref l0, .ref l2]) bf190_1 bf190_2 rfl rfl).trans ?_
  refine (bu (ls'' := [none, none, none, none]) (st' := [.int l1, .ref l0, .ref l2]) bf190_2 bf190_3 rfl rfl).trans ?_
  exact bkHV bf190_3 bf190_6 rfl (by decide +kernel) (Nat.le_of_ble_eq_true rfl) rfl
theorem bk190_6 {w : am_Wd} {s0 : Int32} {s1 : Nat} : am_run 190 6 [none, none, none, none] [.int s0, .ref s1] w = (am_pf w s1 9 0 (.long (Int32.toInt64 s0))).bind fun w' => am_run 190 10 [none, none, none, none] [] w' := by
  refine (bu (ls'' := [none, none, none, none]) (st' := [.long (Int32.toInt64 s0), .ref s1]) bf190_6 bf190_7 rfl rfl).trans ?_
  exact bh bf190_7 bf190_10 rfl (bge_pf) rfl
theorem bk190_14 {w : am_Wd}  : am_run 190 14 [none, none, none, none] [] w = some (.inl (some (.int (nI 1))), w) := by
  refine (bu (ls'' := [none, none, none, none]) (st' := [.int (nI 1)]) bf190_14 bf190_15 rfl rfl).trans ?_
  exact am_e2 bf190_15 rfl (am_ge_rf w)
theorem bk190_10 {w : am_Wd}  : am_run 190 10 [none, none, none, none] [] w = some (.inl (some (.int (nI 0))), w) := by
  refine (bu (ls'' := [none, none, none, none]) (st' := []) bf190_10 bf190_16 rfl rfl).trans ?_
  refine (bu (ls'' := [none, none, none, none]) (st' := [.int (nI 0)]) bf190_16 bf190_17 rfl rfl).trans ?_
  exact am_e2 bf190_17 rfl (am_ge_rf w)
theorem bf191_0 : am_fetch (am_mth 191) 0 = some (.aload 4, 2, [], [5]) := by decide +kernel
theorem bf191_2 : am_fetch (am_mth 191) 2 = some (.aload_n 0, 1, [], [4, 5]) := by decide +kernel
theorem bf191_3 : am_fetch (am_mth 191) 3 = some (.iload_n 1, 1, [], [0, 4, 5]) := by decide +kernel
theorem bf191_4 : am_fetch (am_mth 191) 4 = some (.iload_n 2, 1, [], [0, 1, 4, 5]) := by decide +kernel
theorem bf191_5 : am_fetch (am_mth 191) 5 = some (.iload_n 3, 1, [], [0, 1, 2, 4, 5]) := by decide +kernel
theorem bf191_6 : am_fetch (am_mth 191) 6 = some (.invokevirtual 82, 3, [0, 137, 3, 8, 1103, 474, 475, 46], [0, 1, 2, 3, 4, 5]) := by decide +kernel
theorem bf191_9 : am_fetch (am_mth 191) 9 = some (.i2l, 1, [], [0, 1, 2, 3, 4, 5]) := by decide +kernel
theorem bf191_10 : am_fetch (am_mth 191) 10 = some (.putfield 13, 3, [1, 9, 0, 485], [0, 1, 2, 3, 4, 5]) := by decide +kernel
theorem bf191_13 : am_fetch (am_mth 191) 13 = some (.goto 7, 3, [], [0, 1, 2, 3, 4, 5]) := by decide +kernel
theorem bf191_16 : am_fetch (am_mth 191) 16 = some (.astore 5, 2, [], [0, 1, 2, 3, 4, 5]) := by decide +kernel
theorem bf191_18 : am_fetch (am_mth 191) 18 = some (.iconst 1, 1, [], [0, 1, 2, 3, 4, 5]) := by decide +kernel
theorem bf191_19 : am_fetch (am_mth 191) 19 = some (.ireturn, 1, [0], [0, 1, 2, 3, 4, 5]) := by decide +kernel
theorem bf191_20 : am_fetch (am_mth 191) 20 = some (.iconst 0, 1, [], [0, 1, 2, 3, 4, 5]) := by decide +kernel
theorem bf191_21 : am_fetch (am_mth 191) 21 = some (.ireturn, 1, [0], [0, 1, 2, 3, 4, 5]) := by decide +kernel
theorem bk191_0 {w : am_Wd} {l0 : Nat} {l1 : Int32} {l2 : Int32} {l3 : Int32} {l4 : Nat} : am_run 191 0 [some (.ref l0), some (.int l1), some (.int l2), some (.int l3), some (.ref l4), none] [] w = (am_kf w l0 8).bind fun _ => (am_x 137 [.ref l0, .int l1, .int l2, .int l3] w).bind fun r => am_af 191 6 r (fun v w' => am_run 191 9 [none, none, none, none, none, none] (v.toList ++ [.ref l4]) w') (fun h w' => am_run 191 h (am_nrm 191 h [none, none, none, none, none, none]) [] w') := by
  refine (bu (ls'' := [some (.ref l0), some (.int l1), some (.int l2), some (.int l3), none, none]) (st' := [.ref l4]) bf191_0 bf191_2 rfl rfl).trans ?_
  refine (bu (ls'' := [none, some (.int l1), some (.int l2), some (.int l3), none, none]) (st' := [.ref l0, .ref l4]) bf191_2 bf191_3 rfl rfl).trans ?_
  refine (bu (ls'' := [none, none, some (.int l2), some (.int l3), none, none]) (st' := [.int l1, .ref l0, .ref l4]) bf191_3 bf191_4 rfl rfl).trans ?_
  refine (bu (ls'' := [none, none, none, some (.int l3), none, none]) (st' := [.int l2, .int l1, .ref l0, .ref l4]) bf191_4 bf191_5 rfl rfl).trans ?_
  refine (bu (ls'' := [none, none, none, none, none, none]) (st' := [.int l3, .int l2, .int l1, .ref l0, .ref l4]) bf191_5 bf191_6 rfl rfl).trans ?_
  exact bkHV bf191_6 bf191_9 rfl (by decide +kernel) (Nat.le_of_ble_eq_true rfl) rfl
theorem bk191_9 {w : am_Wd} {s0 : Int32} {s1 : Nat} : am_run 191 9 [none, none, none, none, none, none] [.int s0, .ref s1] w = (am_pf w s1 9 0 (.long (Int32.toInt64 s0))).bind fun w' => am_run 191 13 [none, none, none, none, none, none] [] w' := by
  refine (bu (ls'' := [none, none, none, none, none, none]) (st' := [.long (Int32.toInt64 s0), .ref s1]) bf191_9 bf191_10 rfl rfl).trans ?_
  exact bh bf191_10 bf191_13 rfl (bge_pf) rfl
theorem bk191_18 {w : am_Wd}  : am_run 191 18 [none, none, none, none, none, none] [] w = some (.inl (some (.int (nI 1))), w) := by
  refine (bu (ls'' := [none, none, none, none, none, none]) (st' := [.int (nI 1)]) bf191_18 bf191_19 rfl rfl).trans ?_
  exact am_e2 bf191_19 rfl (am_ge_rf w)
theorem bk191_13 {w : am_Wd}  : am_run 191 13 [none, none, none, none, none, none] [] w = some (.inl (some (.int (nI 0))), w) := by
  refine (bu (ls'' := [none, none, none, none, none, none]) (st' := []) bf191_13 bf191_20 rfl rfl).trans ?_
  refine (bu (ls'' := [none, none, none, none, none, none]) (st' := [.int (nI 0)]) bf191_20 bf191_21 rfl rfl).trans ?_
  exact am_e2 bf191_21 rfl (am_ge_rf w)
theorem bf192_0 : am_fetch (am_mth 192) 0 = some (.aload_n 3, 1, [], [4]) := by decide +kernel
theorem bf192_1 : am_fetch (am_mth 192) 1 = some (.aload_n 0, 1, [], [3, 4]) := by decide +kernel
theorem bf192_2 : am_fetch (am_mth 192) 2 = some (.iload_n 1, 1, [], [0, 3, 4]) := by decide +kernel
theorem bf192_3 : am_fetch (am_mth 192) 3 = some (.iload_n 2, 1, [], [0, 1, 3, 4]) := by decide +kernel
theorem bf192_4 : am_fetch (am_mth 192) 4 = some (.invokevirtual 85, 3, [0, 138, 2, 8, 1107, 1108, 1109, 46], [0, 1, 2, 3, 4]) := by decide +kernel
theorem bf192_7 : am_fetch (am_mth 192) 7 = some (.ifCond .eq 7, 3, [], [0, 1, 2, 3, 4]) := by decide +kernel
theorem bf192_10 : am_fetch (am_mth 192) 10 = some (.lconst 1, 1, [], [0, 1, 2, 3, 4]) := by decide +kernel
theorem bf192_11 : am_fetch (am_mth 192) 11 = some (.goto 4, 3, [], [0, 1, 2, 3, 4]) := by decide +kernel
theorem bf192_14 : am_fetch (am_mth 192) 14 = some (.lconst 0, 1, [], [0, 1, 2, 3, 4]) := by decide +kernel
theorem bf192_15 : am_fetch (am_mth 192) 15 = some (.putfield 13, 3, [1, 9, 0, 485], [0, 1, 2, 3, 4]) := by decide +kernel
theorem bf192_18 : am_fetch (am_mth 192) 18 = some (.goto 7, 3, [], [0, 1, 2, 3, 4]) := by decide +kernel
theorem bf192_21 : am_fetch (am_mth 192) 21 = some (.astore 4, 2, [], [0, 1, 2, 3, 4]) := by decide +kernel
theorem bf192_23 : am_fetch (am_mth 192) 23 = some (.iconst 1, 1, [], [0, 1, 2, 3, 4]) := by decide +kernel
theorem bf192_24 : am_fetch (am_mth 192) 24 = some (.ireturn, 1, [0], [0, 1, 2, 3, 4]) := by decide +kernel
theorem bf192_25 : am_fetch (am_mth 192) 25 = some (.iconst 0, 1, [], [0, 1, 2, 3, 4]) := by decide +kernel
theorem bf192_26 : am_fetch (am_mth 192) 26 = some (.ireturn, 1, [0], [0, 1, 2, 3, 4]) := by decide +kernel
theorem bk192_0 {w : am_Wd} {l0 : Nat} {l1 : Int32} {l2 : Int32} {l3 : Nat} : am_run 192 0 [some (.ref l0), some (.int l1), some (.int l2), some (.ref l3), none] [] w = (am_kf w l0 8).bind fun _ => (am_x 138 [.ref l0, .int l1, .int l2] w).bind fun r => am_af 192 4 r (fun v w' => am_run 192 7 [none, none, none, none, none] (v.toList ++ [.ref l3]) w') (fun h w' => am_run 192 h (am_nrm 192 h [none, none, none, none, none]) [] w') := by
  refine (bu (ls'' := [some (.ref l0), some (.int l1), some (.int l2), none, none]) (st' := [.ref l3]) bf192_0 bf192_1 rfl rfl).trans ?_
  refine (bu (ls'' := [none, some (.int l1), some (.int l2), none, none]) (st' := [.ref l0, .ref l3]) bf192_1 bf192_2 rfl rfl).trans ?_
  refine (bu (ls'' := [none, none, some (.int l2), none, none]) (st' := [.int l1, .ref l0, .ref l3]) bf192_2 bf192_3 rfl rfl).trans ?_
  refine (bu (ls'' := [none, none, none, none, none]) (st' := [.int l2, .int l1, .ref l0, .ref l3]) bf192_3 bf192_4 rfl rfl).trans ?_
  exact bkHV bf192_4 bf192_7 rfl (by decide +kernel) (Nat.le_of_ble_eq_true rfl) rfl
theorem bk192_7 {w : am_Wd} {s0 : Int32} {s1 : Nat} : am_run 192 7 [none, none, none, none, none] [.int s0, .ref s1] w = if s0 = nI 0 then am_run 192 14 [none, none, none, none, none] [.ref s1] w else am_run 192 10 [none, none, none, none, none] [.ref s1] w := by
  exact bifc bf192_7 rfl bf192_14 bf192_10 rfl rfl rfl
theorem bk192_23 {w : am_Wd}  : am_run 192 23 [none, none, none, none, none] [] w = some (.inl (some (.int (nI 1))), w) := by
  refine (bu (ls'' := [none, none, none, none, none]) (st' := [.int (nI 1)]) bf192_23 bf192_24 rfl rfl).trans ?_
  exact am_e2 bf192_24 rfl (am_ge_rf w)
theorem bk192_14 {w : am_Wd} {s0 : Nat} : am_run 192 14 [none, none, none, none, none] [.ref s0] w = am_run 192 15 [none, none, none, none, none] [.long (lN 0), .ref s0] w := by
  refine (bu (ls'' := [none, none, none, none, none]) (st' := [.long (lN 0), .ref s0]) bf192_14 bf192_15 rfl rfl).trans ?_
  rfl
theorem bk192_10 {w : am_Wd} {s0 : Nat} : am_run 192 10 [none, none, none, none, none] [.ref s0] w = am_run 192 15 [none, none, none, none, none] [.long (lN 1), .ref s0] w := by
  refine (bu (ls'' := [none, none, none, none, none]) (st' := [.long (lN 1), .ref s0]) bf192_10 bf192_11 rfl rfl).trans ?_
  refine (bu (ls'' := [none, none, none, none, none]) (st' := [.long (lN 1), .ref s0]) bf192_11 bf192_15 rfl rfl).trans ?_
  rfl
theorem bk192_15 {w : am_Wd} {s0 : Int64} {s1 : Nat} : am_run 192 15 [none, none, none, none, none] [.long s0, .ref s1] w = (am_pf w s1 9 0 (.long s0)).bind fun w' => am_run 192 18 [none, none, none, none, none] [] w' := by
  exact bh bf192_15 bf192_18 rfl (bge_pf) rfl
theorem bk192_18 {w : am_Wd}  : am_run 192 18 [none, none, none, none, none] [] w = some (.inl (some (.int (nI 0))), w) := by
  refine (bu (ls'' := [none, none, none, none, none]) (st' := []) bf192_18 bf192_25 rfl rfl).trans ?_
  refine (bu (ls'' := [none, none, none, none, none]) (st' := [.int (nI 0)]) bf192_25 bf192_26 rfl rfl).trans ?_
  exact am_e2 bf192_26 rfl (am_ge_rf w)
theorem bf193_0 : am_fetch (am_mth 193) 0 = some (.aload_n 3, 1, [], [4]) := by decide +kernel
theorem bf193_1 : am_fetch (am_mth 193) 1 = some (.aload_n 0, 1, [], [3, 4]) := by decide +kernel
theorem bf193_2 : am_fetch (am_mth 193) 2 = some (.iload_n 1, 1, [], [0, 3, 4]) := by decide +kernel
theorem bf193_3 : am_fetch (am_mth 193) 3 = some (.iload_n 2, 1, [], [0, 1, 3, 4]) := by decide +kernel
theorem bf193_4 : am_fetch (am_mth 193) 4 = some (.invokevirtual 89, 3, [0, 139, 2, 8, 1119, 369, 370, 46], [0, 1, 2, 3, 4]) := by decide +kernel
theorem bf193_7 : am_fetch (am_mth 193) 7 = some (.putfield 13, 3, [1, 9, 0, 485], [0, 1, 2, 3, 4]) := by decide +kernel
theorem bf193_10 : am_fetch (am_mth 193) 10 = some (.goto 11, 3, [], [0, 1, 2, 3, 4]) := by decide +kernel
theorem bf193_13 : am_fetch (am_mth 193) 13 = some (.astore 4, 2, [], [0, 1, 2, 3, 4]) := by decide +kernel
theorem bf193_15 : am_fetch (am_mth 193) 15 = some (.iconst 1, 1, [], [0, 1, 2, 3, 4]) := by decide +kernel
theorem bf193_16 : am_fetch (am_mth 193) 16 = some (.ireturn, 1, [0], [0, 1, 2, 3, 4]) := by decide +kernel
theorem bf193_17 : am_fetch (am_mth 193) 17 = some (.astore 4, 2, [], [0, 1, 2, 3, 4]) := by decide +kernel
theorem bf193_19 : am_fetch (am_mth 193) 19 = some (.iconst 2, 1, [], [0, 1, 2, 3, 4]) := by decide +kernel
theorem bf193_20 : am_fetch (am_mth 193) 20 = some (.ireturn, 1, [0], [0, 1, 2, 3, 4]) := by decide +kernel
theorem bf193_21 : am_fetch (am_mth 193) 21 = some (.iconst 0, 1, [], [0, 1, 2, 3, 4]) := by decide +kernel
theorem bf193_22 : am_fetch (am_mth 193) 22 = some (.ireturn, 1, [0], [0, 1, 2, 3, 4]) := by decide +kernel
theorem bk193_0 {w : am_Wd} {l0 : Nat} {l1 : Int32} {l2 : Int32} {l3 : Nat} : am_run 193 0 [some (.ref l0), some (.int l1), some (.int l2), some (.ref l3), none] [] w = (am_kf w l0 8).bind fun _ => (am_x 139 [.ref l0, .int l1, .int l2] w).bind fun r => am_af 193 4 r (fun v w' => am_run 193 7 [none, none, none, none, none] (v.toList ++ [.ref l3]) w') (fun h w' => am_run 193 h (am_nrm 193 h [none, none, none, none, none]) [] w') := by
  refine (bu (ls'' := [some (.ref l0), some (.int l1), some (.int l2), none, none]) (st' := [.ref l3]) bf193_0 bf193_1 rfl rfl).trans ?_
  refine (bu (ls'' := [none, some (.int l1), some (.int l2), none, none]) (st' := [.ref l0, .ref l3]) bf193_1 bf193_2 rfl rfl).trans ?_
  refine (bu (ls'' := [none, none, some (.int l2), none, none]) (st' := [.int l1, .ref l0, .ref l3]) bf193_2 bf193_3 rfl rfl).trans ?_
  refine (bu (ls'' := [none, none, none, none, none]) (st' := [.int l2, .int l1, .ref l0, .ref l3]) bf193_3 bf193_4 rfl rfl).trans ?_
  exact bkHV bf193_4 bf193_7 rfl (by decide +kernel) (Nat.le_of_ble_eq_true rfl) rfl
theorem bk193_7 {w : am_Wd} {s0 : Int64} {s1 : Nat} : am_run 193 7 [none, none, none, none, none] [.long s0, .ref s1] w = (am_pf w s1 9 0 (.long s0)).bind fun w' => am_run 193 10 [none, none, none, none, none] [] w' := by
  exact bh bf193_7 bf193_10 rfl (bge_pf) rfl
theorem bk193_15 {w : am_Wd}  : am_run 193 15 [none, none, none, none, none] [] w = some (.inl (some (.int (nI 1))), w) := by
  refine (bu (ls'' := [none, none, none, none, none]) (st' := [.int (nI 1)]) bf193_15 bf193_16 rfl rfl).trans ?_
  exact am_e2 bf193_16 rfl (am_ge_rf w)
theorem bk193_19 {w : am_Wd}  : am_run 193 19 [none, none, none, none, none] [] w = some (.inl (some (.int (nI 2))), w) := by
  refine (bu (ls'' := [none, none, none, none, none]) (st' := [.int (nI 2)]) bf193_19 bf193_20 rfl rfl).trans ?_
  exact am_e2 bf193_20 rfl (am_ge_rf w)
theorem bk193_10 {w : am_Wd}  : am_run 193 10 [none, none, none, none, none] [] w = some (.inl (some (.int (nI 0))), w) := by
  refine (bu (ls'' := [none, none, none, none, none]) (st' := []) bf193_10 bf193_21 rfl rfl).trans ?_
  refine (bu (ls'' := [none, none, none, none, none]) (st' := [.int (nI 0)]) bf193_21 bf193_22 rfl rfl).trans ?_
  exact am_e2 bf193_22 rfl (am_ge_rf w)
theorem bf194_0 : am_fetch (am_mth 194) 0 = some (.aload 4, 2, [], [5]) := by decide +kernel
theorem bf194_2 : am_fetch (am_mth 194) 2 = some (.aload_n 0, 1, [], [4, 5]) := by decide +kernel
theorem bf194_3 : am_fetch (am_mth 194) 3 = some (.iload_n 1, 1, [], [0, 4, 5]) := by decide +kernel
theorem bf194_4 : am_fetch (am_mth 194) 4 = some (.iload_n 2, 1, [], [0, 1, 4, 5]) := by decide +kernel
theorem bf194_5 : am_fetch (am_mth 194) 5 = some (.iload_n 3, 1, [], [0, 1, 2, 4, 5]) := by decide +kernel
theorem bf194_6 : am_fetch (am_mth 194) 6 = some (.invokevirtual 93, 3, [0, 140, 3, 8, 1123, 1124, 1125, 46], [0, 1, 2, 3, 4, 5]) := by decide +kernel
theorem bf194_9 : am_fetch (am_mth 194) 9 = some (.i2l, 1, [], [0, 1, 2, 3, 4, 5]) := by decide +kernel
theorem bf194_10 : am_fetch (am_mth 194) 10 = some (.putfield 13, 3, [1, 9, 0, 485], [0, 1, 2, 3, 4, 5]) := by decide +kernel
theorem bf194_13 : am_fetch (am_mth 194) 13 = some (.goto 7, 3, [], [0, 1, 2, 3, 4, 5]) := by decide +kernel
theorem bf194_16 : am_fetch (am_mth 194) 16 = some (.astore 5, 2, [], [0, 1, 2, 3, 4, 5]) := by decide +kernel
theorem bf194_18 : am_fetch (am_mth 194) 18 = some (.iconst 1, 1, [], [0, 1, 2, 3, 4, 5]) := by decide +kernel
theorem bf194_19 : am_fetch (am_mth 194) 19 = some (.ireturn, 1, [0], [0, 1, 2, 3, 4, 5]) := by decide +kernel
theorem bf194_20 : am_fetch (am_mth 194) 20 = some (.iconst 0, 1, [], [0, 1, 2, 3, 4, 5]) := by decide +kernel
theorem bf194_21 : am_fetch (am_mth 194) 21 = some (.ireturn, 1, [0], [0, 1, 2, 3, 4, 5]) := by decide +kernel
theorem bk194_0 {w : am_Wd} {l0 : Nat} {l1 : Int32} {l2 : Int32} {l3 : Int32} {l4 : Nat} : am_run 194 0 [some (.ref l0), some (.int l1), some (.int l2), some (.int l3), some (.ref l4), none] [] w = (am_kf w l0 8).bind fun _ => (am_x 140 [.ref l0, .int l1, .int l2, .int l3] w).bind fun r => am_af 194 6 r (fun v w' => am_run 194 9 [none, none, none, none, none, none] (v.toList ++ [.ref l4]) w') (fun h w' => am_run 194 h (am_nrm 194 h [none, none, none, none, none, none]) [] w') := by
  refine (bu (ls'' := [some (.ref l0), some (.int l1), some (.int l2), some (.int l3), none, none]) (st' := [.ref l4]) bf194_0 bf194_2 rfl rfl).trans ?_
  refine (bu (ls'' := [none, some (.int l1), some (.int l2), some (.int l3), none, none]) (st' := [.ref l0, .ref l4]) bf194_2 bf194_3 rfl rfl).trans ?_
  refine (bu (ls'' := [none, none, some (.int l2), some (.int l3), none, none]) (st' := [.int l1, .ref l0, .ref l4]) bf194_3 bf194_4 rfl rfl).trans ?_
  refine (bu (ls'' := [none, none, none, some (.int l3), none, none]) (st' := [.int l2, .int l1, .ref l0, .ref l4]) bf194_4 bf194_5 rfl rfl).trans ?_
  refine (bu (ls'' := [none, none, none, none, none, none]) (st' := [.int l3, .int l2, .int l1, .ref l0, .ref l4]) bf194_5 bf194_6 rfl rfl).trans ?_
  exact bkHV bf194_6 bf194_9 rfl (by decide +kernel) (Nat.le_of_ble_eq_true rfl) rfl
theorem bk194_9 {w : am_Wd} {s0 : Int32} {s1 : Nat} : am_run 194 9 [none, none, none, none, none, none] [.int s0, .ref s1] w = (am_pf w s1 9 0 (.long (Int32.toInt64 s0))).bind fun w' => am_run 194 13 [none, none, none, none, none, none] [] w' := by
  refine (bu (ls'' := [none, none, none, none, none, none]) (st' := [.long (Int32.toInt64 s0), .ref s1]) bf194_9 bf194_10 rfl rfl).trans ?_
  exact bh bf194_10 bf194_13 rfl (bge_pf) rfl
theorem bk194_18 {w : am_Wd}  : am_run 194 18 [none, none, none, none, none, none] [] w = some (.inl (some (.int (nI 1))), w) := by
  refine (bu (ls'' := [none, none, none, none, none, none]) (st' := [.int (nI 1)]) bf194_18 bf194_19 rfl rfl).trans ?_
  exact am_e2 bf194_19 rfl (am_ge_rf w)
theorem bk194_13 {w : am_Wd}  : am_run 194 13 [none, none, none, none, none, none] [] w = some (.inl (some (.int (nI 0))), w) := by
  refine (bu (ls'' := [none, none, none, none, none, none]) (st' := []) bf194_13 bf194_20 rfl rfl).trans ?_
  refine (bu (ls'' := [none, none, none, none, none, none]) (st' := [.int (nI 0)]) bf194_20 bf194_21 rfl rfl).trans ?_
  exact am_e2 bf194_21 rfl (am_ge_rf w)
theorem bf195_0 : am_fetch (am_mth 195) 0 = some (.aload_n 0, 1, [], []) := by decide +kernel
theorem bf195_1 : am_fetch (am_mth 195) 1 = some (.dup, 1, [], []) := by decide +kernel
theorem bf195_2 : am_fetch (am_mth 195) 2 = some (.getfield 63, 3, [0, 3, 0, 1188, 1187], []) := by decide +kernel
theorem bf195_5 : am_fetch (am_mth 195) 5 = some (.iconst 1, 1, [], []) := by decide +kernel
theorem bf195_6 : am_fetch (am_mth 195) 6 = some (.iadd, 1, [], []) := by decide +kernel
theorem bf195_7 : am_fetch (am_mth 195) 7 = some (.putfield 63, 3, [0, 3, 0, 1188, 1187], []) := by decide +kernel
theorem bf195_10 : am_fetch (am_mth 195) 10 = some (.aload_n 0, 1, [], []) := by decide +kernel
theorem bf195_11 : am_fetch (am_mth 195) 11 = some (.aload_n 1, 1, [], []) := by decide +kernel
theorem bf195_12 : am_fetch (am_mth 195) 12 = some (.aload_n 0, 1, [], [1]) := by decide +kernel
theorem bf195_13 : am_fetch (am_mth 195) 13 = some (.getfield 9, 3, [0, 3, 1, 1181], [1]) := by decide +kernel
theorem bf195_16 : am_fetch (am_mth 195) 16 = some (.aload_n 0, 1, [], [1]) := by decide +kernel
theorem bf195_17 : am_fetch (am_mth 195) 17 = some (.getfield 48, 3, [0, 3, 2, 1184], [0, 1]) := by decide +kernel
theorem bf195_20 : am_fetch (am_mth 195) 20 = some (.invokevirtual 131, 3, [0, 149, 3, 3, 1340, 1342, 21, 51], [0, 1]) := by decide +kernel
theorem bf195_23 : am_fetch (am_mth 195) 23 = some (.iconst 1, 1, [], [0, 1]) := by decide +kernel
theorem bf195_24 : am_fetch (am_mth 195) 24 = some (.ireturn, 1, [1], [0, 1]) := by decide +kernel
theorem bk195_0 {w : am_Wd} {l0 : Nat} {l1 : Nat} : am_run 195 0 [some (.ref l0), some (.ref l1)] [] w = (am_gf w l0 3 0).bind fun v => am_run 195 5 [some (.ref l0), some (.ref l1)] (v :: [.ref l0]) w := by
  refine (bu (ls'' := [some (.ref l0), some (.ref l1)]) (st' := [.ref l0]) bf195_0 bf195_1 rfl rfl).trans ?_
  refine (bu (ls'' := [some (.ref l0), some (.ref l1)]) (st' := [.ref l0, .ref l0]) bf195_1 bf195_2 rfl rfl).trans ?_
  exact bh bf195_2 bf195_5 rfl (fun _ _ => am_ge_rf w) rfl
theorem bk195_5 {w : am_Wd} {l0 : Nat} {l1 : Nat} {s0 : Int32} {s1 : Nat} : am_run 195 5 [some (.ref l0), some (.ref l1)] [.int s0, .ref s1] w = (am_pf w s1 3 0 (.int (s0 + (nI 1)))).bind fun w' => am_run 195 10 [some (.ref l0), some (.ref l1)] [] w' := by
  refine (bu (ls'' := [some (.ref l0), some (.ref l1)]) (st' := [.int (nI 1), .int s0, .ref s1]) bf195_5 bf195_6 rfl rfl).trans ?_
  refine (bu (ls'' := [some (.ref l0), some (.ref l1)]) (st' := [.int (s0 + (nI 1)), .ref s1]) bf195_6 bf195_7 rfl rfl).trans ?_
  exact bh bf195_7 bf195_10 rfl (bge_pf) rfl
theorem bk195_10 {w : am_Wd} {l0 : Nat} {l1 : Nat} : am_run 195 10 [some (.ref l0), some (.ref l1)] [] w = (am_gf w l0 3 1).bind fun v => am_run 195 16 [some (.ref l0), none] (v :: [.ref l1, .ref l0]) w := by
  refine (bu (ls'' := [some (.ref l0), some (.ref l1)]) (st' := [.ref l0]) bf195_10 bf195_11 rfl rfl).trans ?_
  refine (bu (ls'' := [some (.ref l0), none]) (st' := [.ref l1, .ref l0]) bf195_11 bf195_12 rfl rfl).trans ?_
  refine (bu (ls'' := [some (.ref l0), none]) (st' := [.ref l0, .ref l1, .ref l0]) bf195_12 bf195_13 rfl rfl).trans ?_
  exact bh bf195_13 bf195_16 rfl (fun _ _ => am_ge_rf w) rfl
theorem bk195_16 {w : am_Wd} {l0 : Nat} {s0 : Nat} {s1 : Nat} {s2 : Nat} : am_run 195 16 [some (.ref l0), none] [.ref s0, .ref s1, .ref s2] w = (am_gf w l0 3 2).bind fun v => am_run 195 20 [none, none] (v :: [.ref s0, .ref s1, .ref s2]) w := by
  refine (bu (ls'' := [none, none]) (st' := [.ref l0, .ref s0, .ref s1, .ref s2]) bf195_16 bf195_17 rfl rfl).trans ?_
  exact bh bf195_17 bf195_20 rfl (fun _ _ => am_ge_rf w) rfl
theorem bk195_20 {w : am_Wd} {s0 : Int32} {s1 : Nat} {s2 : Nat} {s3 : Nat} : am_run 195 20 [none, none] [.int s0, .ref s1, .ref s2, .ref s3] w = (am_kf w s3 3).bind fun _ => (am_x 149 [.ref s3, .ref s2, .ref s1, .int s0] w).bind fun r => bct r fun v w' => am_run 195 23 [none, none] (v.toList ++ []) w' := by
  exact bkV bf195_20 bf195_23 rfl (by decide +kernel) (Nat.le_of_ble_eq_true rfl) rfl (bhd rfl)
theorem bk195_23 {w : am_Wd}  : am_run 195 23 [none, none] [] w = some (.inl (some (.int (nI 1))), w) := by
  refine (bu (ls'' := [none, none]) (st' := [.int (nI 1)]) bf195_23 bf195_24 rfl rfl).trans ?_
  exact am_e2 bf195_24 rfl (am_ge_rf w)
theorem bf199_0 : am_fetch (am_mth 199) 0 = some (.aload_n 0, 1, [], [1]) := by decide +kernel
theorem bf199_1 : am_fetch (am_mth 199) 1 = some (.invokevirtual 91, 3, [0, 162, 0, 6, 402, 377, 378, 63], [1]) := by decide +kernel
theorem bf199_4 : am_fetch (am_mth 199) 4 = some (.invokestatic 94, 3, [0, 19, 1, 403, 396, 63], [1]) := by decide +kernel
theorem bf199_7 : am_fetch (am_mth 199) 7 = some (.istore_n 1, 1, [], [1]) := by decide +kernel
theorem bf199_8 : am_fetch (am_mth 199) 8 = some (.iload_n 1, 1, [], []) := by decide +kernel
theorem bf199_9 : am_fetch (am_mth 199) 9 = some (.ifCond .ge 20, 3, [], []) := by decide +kernel
theorem bf199_12 : am_fetch (am_mth 199) 12 = some (.aload_n 0, 1, [], [1]) := by decide +kernel
theorem bf199_13 : am_fetch (am_mth 199) 13 = some (.getfield 32, 3, [0, 6, 4, 618], [0, 1]) := by decide +kernel
theorem bf199_16 : am_fetch (am_mth 199) 16 = some (.bipush 20, 2, [], [0, 1]) := by decide +kernel
theorem bf199_18 : am_fetch (am_mth 199) 18 = some (.if_icmp .le 7, 3, [], [0, 1]) := by decide +kernel
theorem bf199_21 : am_fetch (am_mth 199) 21 = some (.iconst 1, 1, [], [0, 1]) := by decide +kernel
theorem bf199_22 : am_fetch (am_mth 199) 22 = some (.goto 22, 3, [], [0, 1]) := by decide +kernel
theorem bf199_25 : am_fetch (am_mth 199) 25 = some (.iconst 0, 1, [], [0, 1]) := by decide +kernel
theorem bf199_26 : am_fetch (am_mth 199) 26 = some (.goto 18, 3, [], [0, 1]) := by decide +kernel
theorem bf199_29 : am_fetch (am_mth 199) 29 = some (.aload_n 0, 1, [], []) := by decide +kernel
theorem bf199_30 : am_fetch (am_mth 199) 30 = some (.getfield 32, 3, [0, 6, 4, 618], [0]) := by decide +kernel
theorem bf199_33 : am_fetch (am_mth 199) 33 = some (.iconst 1, 1, [], [0]) := by decide +kernel
theorem bf199_34 : am_fetch (am_mth 199) 34 = some (.isub, 1, [], [0]) := by decide +kernel
theorem bf199_35 : am_fetch (am_mth 199) 35 = some (.iload_n 1, 1, [], [0]) := by decide +kernel
theorem bf199_36 : am_fetch (am_mth 199) 36 = some (.if_icmp .lt 7, 3, [], [0, 1]) := by decide +kernel
theorem bf199_39 : am_fetch (am_mth 199) 39 = some (.iconst 1, 1, [], [0, 1]) := by decide +kernel
theorem bf199_40 : am_fetch (am_mth 199) 40 = some (.goto 4, 3, [], [0, 1]) := by decide +kernel
theorem bf199_43 : am_fetch (am_mth 199) 43 = some (.iconst 0, 1, [], [0, 1]) := by decide +kernel
theorem bf199_44 : am_fetch (am_mth 199) 44 = some (.ireturn, 1, [1], [0, 1]) := by decide +kernel
theorem bk199_0 {w : am_Wd} {l0 : Nat} : am_run 199 0 [some (.ref l0), none] [] w = (am_kf w l0 6).bind fun _ => (am_x 162 [.ref l0] w).bind fun r => bct r fun v w' => am_run 199 4 [some (.ref l0), none] (v.toList ++ []) w' := by
  refine (bu (ls'' := [some (.ref l0), none]) (st' := [.ref l0]) bf199_0 bf199_1 rfl rfl).trans ?_
  exact bkV bf199_1 bf199_4 rfl (by decide +kernel) (Nat.le_of_ble_eq_true rfl) rfl (bhd rfl)
theorem bk199_4 {w : am_Wd} {l0 : Nat} {s0 : Int32} : am_run 199 4 [some (.ref l0), none] [.int s0] w = (am_x 19 [.int s0] w).bind fun r => bct r fun v w' => am_run 199 7 [some (.ref l0), none] (v.toList ++ []) w' := by
  exact bkS bf199_4 bf199_7 rfl (by decide +kernel) (Nat.le_of_ble_eq_true rfl) rfl (bhd rfl)
theorem bk199_7 {w : am_Wd} {l0 : Nat} {s0 : Int32} : am_run 199 7 [some (.ref l0), none] [.int s0] w = if nI 0 ≤ s0 then am_run 199 29 [some (.ref l0), some (.int s0)] [] w else am_run 199 12 [some (.ref l0), none] [] w := by
  refine (bu (ls'' := [some (.ref l0), some (.int s0)]) (st' := []) bf199_7 bf199_8 rfl rfl).trans ?_
  refine (bu (ls'' := [some (.ref l0), some (.int s0)]) (st' := [.int s0]) bf199_8 bf199_9 rfl rfl).trans ?_
  exact bifc bf199_9 rfl bf199_29 bf199_12 rfl rfl rfl
theorem bk199_29 {w : am_Wd} {l0 : Nat} {l1 : Int32} : am_run 199 29 [some (.ref l0), some (.int l1)] [] w = (am_gf w l0 6 4).bind fun v => am_run 199 33 [none, some (.int l1)] (v :: []) w := by
  refine (bu (ls'' := [none, some (.int l1)]) (st' := [.ref l0]) bf199_29 bf199_30 rfl rfl).trans ?_
  exact bh bf199_30 bf199_33 rfl (fun _ _ => am_ge_rf w) rfl
theorem bk199_12 {w : am_Wd} {l0 : Nat} : am_run 199 12 [some (.ref l0), none] [] w = (am_gf w l0 6 4).bind fun v => am_run 199 16 [none, none] (v :: []) w := by
  refine (bu (ls'' := [none, none]) (st' := [.ref l0]) bf199_12 bf199_13 rfl rfl).trans ?_
  exact bh bf199_13 bf199_16 rfl (fun _ _ => am_ge_rf w) rfl
theorem bk199_33 {w : am_Wd} {l1 : Int32} {s0 : Int32} : am_run 199 33 [none, some (.int l1)] [.int s0] w = if (s0 - (nI 1)) < l1 then am_run 199 43 [none, none] [] w else am_run 199 39 [none, none] [] w := by
  refine (bu (ls'' := [none, some (.int l1)]) (st' := [.int (nI 1), .int s0]) bf199_33 bf199_34 rfl rfl).trans ?_
  refine (bu (ls'' := [none, some (.int l1)]) (st' := [.int (s0 - (nI 1))]) bf199_34 bf199_35 rfl rfl).trans ?_
  refine (bu (ls'' := [none, none]) (st' := [.int l1, .int (s0 - (nI 1))]) bf199_35 bf199_36 rfl rfl).trans ?_
  exact bic bf199_36 rfl bf199_43 bf199_39 rfl rfl rfl
theorem bk199_16 {w : am_Wd} {s0 : Int32} : am_run 199 16 [none, none] [.int s0] w = if s0 ≤ (nI 20) then am_run 199 25 [none, none] [] w else am_run 199 21 [none, none] [] w := by
  refine (bu (ls'' := [none, none]) (st' := [.int (nI 20), .int s0]) bf199_16 bf199_18 rfl rfl).trans ?_
  exact bic bf199_18 rfl bf199_25 bf199_21 rfl rfl rfl
theorem bk199_43 {w : am_Wd}  : am_run 199 43 [none, none] [] w = am_run 199 44 [none, none] [.int (nI 0)] w := by
  refine (bu (ls'' := [none, none]) (st' := [.int (nI 0)]) bf199_43 bf199_44 rfl rfl).trans ?_
  rfl
theorem bk199_39 {w : am_Wd}  : am_run 199 39 [none, none] [] w = am_run 199 44 [none, none] [.int (nI 1)] w := by
  refine (bu (ls'' := [none, none]) (st' := [.int (nI 1)]) bf199_39 bf199_40 rfl rfl).trans ?_
  refine (bu (ls'' := [none, none]) (st' := [.int (nI 1)]) bf199_40 bf199_44 rfl rfl).trans ?_
  rfl
theorem bk199_25 {w : am_Wd}  : am_run 199 25 [none, none] [] w = am_run 199 44 [none, none] [.int (nI 0)] w := by
  refine (bu (ls'' := [none, none]) (st' := [.int (nI 0)]) bf199_25 bf199_26 rfl rfl).trans ?_
  refine (bu (ls'' := [none, none]) (st' := [.int (nI 0)]) bf199_26 bf199_44 rfl rfl).trans ?_
  rfl
theorem bk199_21 {w : am_Wd}  : am_run 199 21 [none, none] [] w = am_run 199 44 [none, none] [.int (nI 1)] w := by
  refine (bu (ls'' := [none, none]) (st' := [.int (nI 1)]) bf199_21 bf199_22 rfl rfl).trans ?_
  refine (bu (ls'' := [none, none]) (st' := [.int (nI 1)]) bf199_22 bf199_44 rfl rfl).trans ?_
  rfl
theorem bk199_44 {w : am_Wd} {s0 : Int32} (hb : am_ok (am_rt 1) (.int s0) = true) : am_run 199 44 [none, none] [.int s0] w = some (.inl (some (.int s0)), w) := by
  exact am_e2 bf199_44 (by unfold am_stp; exact if_pos ⟨by decide, hb⟩) (am_ge_rf w)
theorem bf200_0 : am_fetch (am_mth 200) 0 = some (.iload_n 1, 1, [], []) := by decide +kernel
theorem bf200_1 : am_fetch (am_mth 200) 1 = some (.iconst 0, 1, [], []) := by decide +kernel
theorem bf200_2 : am_fetch (am_mth 200) 2 = some (.bipush 126, 2, [], []) := by decide +kernel
theorem bf200_4 : am_fetch (am_mth 200) 4 = some (.invokestatic 43, 3, [0, 92, 3, 220, 221, 46], []) := by decide +kernel
theorem bf200_7 : am_fetch (am_mth 200) 7 = some (.aload_n 0, 1, [], []) := by decide +kernel
theorem bf200_8 : am_fetch (am_mth 200) 8 = some (.getfield 10, 3, [0, 8, 0, 111], []) := by decide +kernel
theorem bf200_11 : am_fetch (am_mth 200) 11 = some (.iload_n 1, 1, [], []) := by decide +kernel
theorem bf200_12 : am_fetch (am_mth 200) 12 = some (.invokevirtual 55, 3, [0, 157, 1, 5, 517, 518, 519, 47], [1]) := by decide +kernel
theorem bf200_15 : am_fetch (am_mth 200) 15 = some (.aload_n 0, 1, [], [1]) := by decide +kernel
theorem bf200_16 : am_fetch (am_mth 200) 16 = some (.getfield 10, 3, [0, 8, 0, 111], [0, 1]) := by decide +kernel
theorem bf200_19 : am_fetch (am_mth 200) 19 = some (.iconst 1, 1, [], [0, 1]) := by decide +kernel
theorem bf200_20 : am_fetch (am_mth 200) 20 = some (.invokevirtual 58, 3, [0, 10, 1, 5, 294, 295, 296, 47], [0, 1]) := by decide +kernel
theorem bf200_23 : am_fetch (am_mth 200) 23 = some (.ireturn, 1, [0], [0, 1]) := by decide +kernel
theorem bk200_0 {w : am_Wd} {l0 : Nat} {l1 : Int32} : am_run 200 0 [some (.ref l0), some (.int l1)] [] w = (am_x 92 [.int l1, .int (nI 0), .int (nI 126)] w).bind fun r => bct r fun v w' => am_run 200 7 [some (.ref l0), some (.int l1)] (v.toList ++ []) w' := by
  refine (bu (ls'' := [some (.ref l0), some (.int l1)]) (st' := [.int l1]) bf200_0 bf200_1 rfl rfl).trans ?_
  refine (bu (ls'' := [some (.ref l0), some (.int l1)]) (st' := [.int (nI 0), .int l1]) bf200_1 bf200_2 rfl rfl).trans ?_
  refine (bu (ls'' := [some (.ref l0), some (.int l1)]) (st' := [.int (nI 126), .int (nI 0), .int l1]) bf200_2 bf200_4 rfl rfl).trans ?_
  exact bkS bf200_4 bf200_7 rfl (by decide +kernel) (Nat.le_of_ble_eq_true rfl) rfl (bhd rfl)
theorem bk200_7 {w : am_Wd} {l0 : Nat} {l1 : Int32} : am_run 200 7 [some (.ref l0), some (.int l1)] [] w = (am_gf w l0 8 0).bind fun v => am_run 200 11 [some (.ref l0), some (.int l1)] (v :: []) w := by
  refine (bu (ls'' := [some (.ref l0), some (.int l1)]) (st' := [.ref l0]) bf200_7 bf200_8 rfl rfl).trans ?_
  exact bh bf200_8 bf200_11 rfl (fun _ _ => am_ge_rf w) rfl
theorem bk200_11 {w : am_Wd} {l0 : Nat} {l1 : Int32} {s0 : Nat} : am_run 200 11 [some (.ref l0), some (.int l1)] [.ref s0] w = (am_kf w s0 5).bind fun _ => (am_x 157 [.ref s0, .int l1] w).bind fun r => bct r fun v w' => am_run 200 15 [some (.ref l0), none] (v.toList ++ []) w' := by
  refine (bu (ls'' := [some (.ref l0), none]) (st' := [.int l1, .ref s0]) bf200_11 bf200_12 rfl rfl).trans ?_
  exact bkV bf200_12 bf200_15 rfl (by decide +kernel) (Nat.le_of_ble_eq_true rfl) rfl (bhd rfl)
theorem bk200_15 {w : am_Wd} {l0 : Nat} : am_run 200 15 [some (.ref l0), none] [] w = (am_gf w l0 8 0).bind fun v => am_run 200 19 [none, none] (v :: []) w := by
  refine (bu (ls'' := [none, none]) (st' := [.ref l0]) bf200_15 bf200_16 rfl rfl).trans ?_
  exact bh bf200_16 bf200_19 rfl (fun _ _ => am_ge_rf w) rfl
theorem bk200_19 {w : am_Wd} {s0 : Nat} : am_run 200 19 [none, none] [.ref s0] w = (am_kf w s0 5).bind fun _ => (am_x 10 [.ref s0, .int (nI 1)] w).bind fun r => bct r fun v w' => am_run 200 23 [none, none] (v.toList ++ []) w' := by
  refine (bu (ls'' := [none, none]) (st' := [.int (nI 1), .ref s0]) bf200_19 bf200_20 rfl rfl).trans ?_
  exact bkV bf200_20 bf200_23 rfl (by decide +kernel) (Nat.le_of_ble_eq_true rfl) rfl (bhd rfl)
theorem bk200_23 {w : am_Wd} {s0 : Int32} : am_run 200 23 [none, none] [.int s0] w = some (.inl (some (.int s0)), w) := by
  exact am_e2 bf200_23 rfl (am_ge_rf w)
theorem bf201_0 : am_fetch (am_mth 201) 0 = some (.aload_n 0, 1, [], [3]) := by decide +kernel
theorem bf201_1 : am_fetch (am_mth 201) 1 = some (.iload_n 1, 1, [], [3]) := by decide +kernel
theorem bf201_2 : am_fetch (am_mth 201) 2 = some (.invokevirtual 89, 3, [0, 31, 1, 8, 352, 354, 4, 46], [1, 3]) := by decide +kernel
theorem bf201_5 : am_fetch (am_mth 201) 5 = some (.astore_n 3, 1, [], [1, 3]) := by decide +kernel
theorem bf201_6 : am_fetch (am_mth 201) 6 = some (.iload_n 2, 1, [], [1]) := by decide +kernel
theorem bf201_7 : am_fetch (am_mth 201) 7 = some (.iconst 0, 1, [], [1]) := by decide +kernel
theorem bf201_8 : am_fetch (am_mth 201) 8 = some (.bipush 12, 2, [], [1]) := by decide +kernel
theorem bf201_10 : am_fetch (am_mth 201) 10 = some (.invokestatic 43, 3, [0, 92, 3, 220, 221, 46], [1]) := by decide +kernel
theorem bf201_13 : am_fetch (am_mth 201) 13 = some (.iload_n 2, 1, [], [1]) := by decide +kernel
theorem bf201_14 : am_fetch (am_mth 201) 14 = some (.lookupswitch 60 #[(7, 26), (8, 43)], 26, [], [1]) := by decide +kernel
theorem bf201_40 : am_fetch (am_mth 201) 40 = some (.aload_n 0, 1, [], [1, 2]) := by decide +kernel
theorem bf201_41 : am_fetch (am_mth 201) 41 = some (.getfield 10, 3, [0, 8, 0, 111], [1, 2]) := by decide +kernel
theorem bf201_44 : am_fetch (am_mth 201) 44 = some (.aload_n 3, 1, [], [1, 2]) := by decide +kernel
theorem bf201_45 : am_fetch (am_mth 201) 45 = some (.getfield 179, 3, [1, 6, 1, 613], [1, 2, 3]) := by decide +kernel
theorem bf201_48 : am_fetch (am_mth 201) 48 = some (.iconst 1, 1, [], [1, 2, 3]) := by decide +kernel
theorem bf201_49 : am_fetch (am_mth 201) 49 = some (.aload_n 0, 1, [], [1, 2, 3]) := by decide +kernel
theorem bf201_50 : am_fetch (am_mth 201) 50 = some (.invokevirtual 110, 3, [0, 33, 0, 8, 165, 167, 1, 46], [0, 1, 2, 3]) := by decide +kernel
theorem bf201_53 : am_fetch (am_mth 201) 53 = some (.invokevirtual 207, 3, [0, 159, 3, 5, 169, 170, 171, 47], [0, 1, 2, 3]) := by decide +kernel
theorem bf201_56 : am_fetch (am_mth 201) 56 = some (.ireturn, 1, [0], [0, 1, 2, 3]) := by decide +kernel
theorem bf201_57 : am_fetch (am_mth 201) 57 = some (.aload_n 0, 1, [], [1, 2]) := by decide +kernel
theorem bf201_58 : am_fetch (am_mth 201) 58 = some (.getfield 10, 3, [0, 8, 0, 111], [1, 2]) := by decide +kernel
theorem bf201_61 : am_fetch (am_mth 201) 61 = some (.aload_n 3, 1, [], [1, 2]) := by decide +kernel
theorem bf201_62 : am_fetch (am_mth 201) 62 = some (.getfield 179, 3, [1, 6, 1, 613], [1, 2, 3]) := by decide +kernel
theorem bf201_65 : am_fetch (am_mth 201) 65 = some (.iconst 0, 1, [], [1, 2, 3]) := by decide +kernel
theorem bf201_66 : am_fetch (am_mth 201) 66 = some (.aload_n 0, 1, [], [1, 2, 3]) := by decide +kernel
theorem bf201_67 : am_fetch (am_mth 201) 67 = some (.invokevirtual 110, 3, [0, 33, 0, 8, 165, 167, 1, 46], [0, 1, 2, 3]) := by decide +kernel
theorem bf201_70 : am_fetch (am_mth 201) 70 = some (.invokevirtual 207, 3, [0, 159, 3, 5, 169, 170, 171, 47], [0, 1, 2, 3]) := by decide +kernel
theorem bf201_73 : am_fetch (am_mth 201) 73 = some (.ireturn, 1, [0], [0, 1, 2, 3]) := by decide +kernel
theorem bf201_74 : am_fetch (am_mth 201) 74 = some (.aload_n 3, 1, [], [0, 1]) := by decide +kernel
theorem bf201_75 : am_fetch (am_mth 201) 75 = some (.iload_n 2, 1, [], [0, 1, 3]) := by decide +kernel
theorem bf201_76 : am_fetch (am_mth 201) 76 = some (.invokevirtual 211, 3, [0, 165, 1, 6, 357, 358, 359, 63], [0, 1, 2, 3]) := by decide +kernel
theorem bf201_79 : am_fetch (am_mth 201) 79 = some (.ireturn, 1, [0], [0, 1, 2, 3]) := by decide +kernel
theorem bk201_0 {w : am_Wd} {l0 : Nat} {l1 : Int32} {l2 : Int32} : am_run 201 0 [some (.ref l0), some (.int l1), some (.int l2), none] [] w = (am_kf w l0 8).bind fun _ => (am_x 31 [.ref l0, .int l1] w).bind fun r => bct r fun v w' => am_run 201 5 [some (.ref l0), none, some (.int l2), none] (v.toList ++ []) w' := by
  refine (bu (ls'' := [some (.ref l0), some (.int l1), some (.int l2), none]) (st' := [.ref l0]) bf201_0 bf201_1 rfl rfl).trans ?_
  refine (bu (ls'' := [some (.ref l0), none, some (.int l2), none]) (st' := [.int l1, .ref l0]) bf201_1 bf201_2 rfl rfl).trans ?_
  exact bkV bf201_2 bf201_5 rfl (by decide +kernel) (Nat.le_of_ble_eq_true rfl) rfl (bhd rfl)
theorem bk201_5 {w : am_Wd} {l0 : Nat} {l2 : Int32} {s0 : Nat} : am_run 201 5 [some (.ref l0), none, some (.int l2), none] [.ref s0] w = (am_x 92 [.int l2, .int (nI 0), .int (nI 12)] w).bind fun r => bct r fun v w' => am_run 201 13 [some (.ref l0), none, some (.int l2), some (.ref s0)] (v.toList ++ []) w' := by
  refine (bu (ls'' := [some (.ref l0), none, some (.int l2), some (.ref s0)]) (st' := []) bf201_5 bf201_6 rfl rfl).trans ?_
  refine (bu (ls'' := [some (.ref l0), none, some (.int l2), some (.ref s0)]) (st' := [.int l2]) bf201_6 bf201_7 rfl rfl).trans ?_
  refine (bu (ls'' := [some (.ref l0), none, some (.int l2), some (.ref s0)]) (st' := [.int (nI 0), .int l2]) bf201_7 bf201_8 rfl rfl).trans ?_
  refine (bu (ls'' := [some (.ref l0), none, some (.int l2), some (.ref s0)]) (st' := [.int (nI 12), .int (nI 0), .int l2]) bf201_8 bf201_10 rfl rfl).trans ?_
  exact bkS bf201_10 bf201_13 rfl (by decide +kernel) (Nat.le_of_ble_eq_true rfl) rfl (bhd rfl)
theorem bk201_13 {w : am_Wd} {l0 : Nat} {l2 : Int32} {l3 : Nat} : am_run 201 13 [some (.ref l0), none, some (.int l2), some (.ref l3)] [] w = if l2 = (nI 7) then am_run 201 40 [some (.ref l0), none, none, some (.ref l3)] [] w else if l2 = (nI 8) then am_run 201 57 [some (.ref l0), none, none, some (.ref l3)] [] w else am_run 201 74 [none, none, some (.int l2), some (.ref l3)] [] w := by
  refine (bu (ls'' := [some (.ref l0), none, some (.int l2), some (.ref l3)]) (st' := [.int l2]) bf201_13 bf201_14 rfl rfl).trans ?_
  refine bsw (fun q => ?_) (fun q0 => ?_)
  · exact bu (ls' := [some (.ref l0), none, some (.int l2), some (.ref l3)]) (ls'' := [some (.ref l0), none, none, some (.ref l3)]) (st' := []) bf201_14 bf201_40 (by rw [q]; rfl) rfl
  refine bsw (fun q => ?_) (fun q1 => ?_)
  · exact bu (ls' := [some (.ref l0), none, some (.int l2), some (.ref l3)]) (ls'' := [some (.ref l0), none, none, some (.ref l3)]) (st' := []) bf201_14 bf201_57 (by rw [q]; rfl) rfl
  exact bsl bf201_14 bf201_74 rfl rfl (bcon (by rfl) q0 (bcon (by rfl) q1 (bnil))) rfl
theorem bk201_40 {w : am_Wd} {l0 : Nat} {l3 : Nat} : am_run 201 40 [some (.ref l0), none, none, some (.ref l3)] [] w = (am_gf w l0 8 0).bind fun v => am_run 201 44 [some (.ref l0), none, none, some (.ref l3)] (v :: []) w := by
  refine (bu (ls'' := [some (.ref l0), none, none, some (.ref l3)]) (st' := [.ref l0]) bf201_40 bf201_41 rfl rfl).trans ?_
  exact bh bf201_41 bf201_44 rfl (fun _ _ => am_ge_rf w) rfl
theorem bk201_57 {w : am_Wd} {l0 : Nat} {l3 : Nat} : am_run 201 57 [some (.ref l0), none, none, some (.ref l3)] [] w = (am_gf w l0 8 0).bind fun v => am_run 201 61 [some (.ref l0), none, none, some (.ref l3)] (v :: []) w := by
  refine (bu (ls'' := [some (.ref l0), none, none, some (.ref l3)]) (st' := [.ref l0]) bf201_57 bf201_58 rfl rfl).trans ?_
  exact bh bf201_58 bf201_61 rfl (fun _ _ => am_ge_rf w) rfl
theorem bk201_74 {w : am_Wd} {l2 : Int32} {l3 : Nat} : am_run 201 74 [none, none, some (.int l2), some (.ref l3)] [] w = (am_kf w l3 6).bind fun _ => (am_x 165 [.ref l3, .int l2] w).bind fun r => bct r fun v w' => am_run 201 79 [none, none, none, none] (v.toList ++ []) w' := by
  refine (bu (ls'' := [none, none, some (.int l2), none]) (st' := [.ref l3]) bf201_74 bf201_75 rfl rfl).trans ?_
  refine (bu (ls'' := [none, none, none, none]) (st' := [.int l2, .ref l3]) bf201_75 bf201_76 rfl rfl).trans ?_
  exact bkV bf201_76 bf201_79 rfl (by decide +kernel) (Nat.le_of_ble_eq_true rfl) rfl (bhd rfl)
theorem bk201_44 {w : am_Wd} {l0 : Nat} {l3 : Nat} {s0 : Nat} : am_run 201 44 [some (.ref l0), none, none, some (.ref l3)] [.ref s0] w = (am_gf w l3 6 1).bind fun v => am_run 201 48 [some (.ref l0), none, none, none] (v :: [.ref s0]) w := by
  refine (bu (ls'' := [some (.ref l0), none, none, none]) (st' := [.ref l3, .ref s0]) bf201_44 bf201_45 rfl rfl).trans ?_
  exact bh bf201_45 bf201_48 rfl (fun _ _ => am_ge_rf w) rfl
theorem bk201_61 {w : am_Wd} {l0 : Nat} {l3 : Nat} {s0 : Nat} : am_run 201 61 [some (.ref l0), none, none, some (.ref l3)] [.ref s0] w = (am_gf w l3 6 1).bind fun v => am_run 201 65 [some (.ref l0), none, none, none] (v :: [.ref s0]) w := by
  refine (bu (ls'' := [some (.ref l0), none, none, none]) (st' := [.ref l3, .ref s0]) bf201_61 bf201_62 rfl rfl).trans ?_
  exact bh bf201_62 bf201_65 rfl (fun _ _ => am_ge_rf w) rfl
theorem bk201_79 {w : am_Wd} {s0 : Int32} : am_run 201 79 [none, none, none, none] [.int s0] w = some (.inl (some (.int s0)), w) := by
  exact am_e2 bf201_79 rfl (am_ge_rf w)
theorem bk201_48 {w : am_Wd} {l0 : Nat} {s0 : Nat} {s1 : Nat} : am_run 201 48 [some (.ref l0), none, none, none] [.ref s0, .ref s1] w = (am_kf w l0 8).bind fun _ => (am_x 33 [.ref l0] w).bind fun r => bct r fun v w' => am_run 201 53 [none, none, none, none] (v.toList ++ [.int (nI 1), .ref s0, .ref s1]) w' := by
  refine (bu (ls'' := [some (.ref l0), none, none, none]) (st' := [.int (nI 1), .ref s0, .ref s1]) bf201_48 bf201_49 rfl rfl).trans ?_
  refine (bu (ls'' := [none, none, none, none]) (st' := [.ref l0, .int (nI 1), .ref s0, .ref s1]) bf201_49 bf201_50 rfl rfl).trans ?_
  exact bkV bf201_50 bf201_53 rfl (by decide +kernel) (Nat.le_of_ble_eq_true rfl) rfl (bhd rfl)
theorem bk201_65 {w : am_Wd} {l0 : Nat} {s0 : Nat} {s1 : Nat} : am_run 201 65 [some (.ref l0), none, none, none] [.ref s0, .ref s1] w = (am_kf w l0 8).bind fun _ => (am_x 33 [.ref l0] w).bind fun r => bct r fun v w' => am_run 201 70 [none, none, none, none] (v.toList ++ [.int (nI 0), .ref s0, .ref s1]) w' := by
  refine (bu (ls'' := [some (.ref l0), none, none, none]) (st' := [.int (nI 0), .ref s0, .ref s1]) bf201_65 bf201_66 rfl rfl).trans ?_
  refine (bu (ls'' := [none, none, none, none]) (st' := [.ref l0, .int (nI 0), .ref s0, .ref s1]) bf201_66 bf201_67 rfl rfl).trans ?_
  exact bkV bf201_67 bf201_70 rfl (by decide +kernel) (Nat.le_of_ble_eq_true rfl) rfl (bhd rfl)
theorem bk201_53 {w : am_Wd} {s0 : Int32} {s1 : Int32} {s2 : Nat} {s3 : Nat} : am_run 201 53 [none, none, none, none] [.int s0, .int s1, .ref s2, .ref s3] w = (am_kf w s3 5).bind fun _ => (am_x 159 [.ref s3, .ref s2, .int s1, .int s0] w).bind fun r => bct r fun v w' => am_run 201 56 [none, none, none, none] (v.toList ++ []) w' := by
  exact bkV bf201_53 bf201_56 rfl (by decide +kernel) (Nat.le_of_ble_eq_true rfl) rfl (bhd rfl)
theorem bk201_70 {w : am_Wd} {s0 : Int32} {s1 : Int32} {s2 : Nat} {s3 : Nat} : am_run 201 70 [none, none, none, none] [.int s0, .int s1, .ref s2, .ref s3] w = (am_kf w s3 5).bind fun _ => (am_x 159 [.ref s3, .ref s2, .int s1, .int s0] w).bind fun r => bct r fun v w' => am_run 201 73 [none, none, none, none] (v.toList ++ []) w' := by
  exact bkV bf201_70 bf201_73 rfl (by decide +kernel) (Nat.le_of_ble_eq_true rfl) rfl (bhd rfl)
theorem bk201_56 {w : am_Wd} {s0 : Int32} : am_run 201 56 [none, none, none, none] [.int s0] w = some (.inl (some (.int s0)), w) := by
  exact am_e2 bf201_56 rfl (am_ge_rf w)
theorem bk201_73 {w : am_Wd} {s0 : Int32} : am_run 201 73 [none, none, none, none] [.int s0] w = some (.inl (some (.int s0)), w) := by
  exact am_e2 bf201_73 rfl (am_ge_rf w)
theorem bf202_0 : am_fetch (am_mth 202) 0 = some (.aload_n 0, 1, [], [3]) := by decide +kernel
theorem bf202_1 : am_fetch (am_mth 202) 1 = some (.iload_n 1, 1, [], [0, 3]) := by decide +kernel
theorem bf202_2 : am_fetch (am_mth 202) 2 = some (.invokevirtual 89, 3, [0, 31, 1, 8, 352, 354, 4, 46], [0, 1, 3]) := by decide +kernel
theorem bf202_5 : am_fetch (am_mth 202) 5 = some (.astore_n 3, 1, [], [0, 1, 3]) := by decide +kernel
theorem bf202_6 : am_fetch (am_mth 202) 6 = some (.iload_n 2, 1, [], [0, 1]) := by decide +kernel
theorem bf202_7 : am_fetch (am_mth 202) 7 = some (.iconst 0, 1, [], [0, 1]) := by decide +kernel
theorem bf202_8 : am_fetch (am_mth 202) 8 = some (.iconst 3, 1, [], [0, 1]) := by decide +kernel
theorem bf202_9 : am_fetch (am_mth 202) 9 = some (.invokestatic 43, 3, [0, 92, 3, 220, 221, 46], [0, 1]) := by decide +kernel
theorem bf202_12 : am_fetch (am_mth 202) 12 = some (.aload_n 3, 1, [], [0, 1]) := by decide +kernel
theorem bf202_13 : am_fetch (am_mth 202) 13 = some (.iload_n 2, 1, [], [0, 1, 3]) := by decide +kernel
theorem bf202_14 : am_fetch (am_mth 202) 14 = some (.invokevirtual 280, 3, [0, 164, 1, 6, 425, 426, 427, 63], [0, 1, 2, 3]) := by decide +kernel
theorem bf202_17 : am_fetch (am_mth 202) 17 = some (.ireturn, 1, [0], [0, 1, 2, 3]) := by decide +kernel
theorem bk202_0 {w : am_Wd} {l0 : Nat} {l1 : Int32} {l2 : Int32} : am_run 202 0 [some (.ref l0), some (.int l1), some (.int l2), none] [] w = (am_kf w l0 8).bind fun _ => (am_x 31 [.ref l0, .int l1] w).bind fun r => bct r fun v w' => am_run 202 5 [none, none, some (.int l2), none] (v.toList ++ []) w' := by
  refine (bu (ls'' := [none, some (.int l1), some (.int l2), none]) (st' := [.ref l0]) bf202_0 bf202_1 rfl rfl).trans ?_
  refine (bu (ls'' := [none, none, some (.int l2), none]) (st' := [.int l1, .ref l0]) bf202_1 bf202_2 rfl rfl).trans ?_
  exact bkV bf202_2 bf202_5 rfl (by decide +kernel) (Nat.le_of_ble_eq_true rfl) rfl (bhd rfl)
theorem bk202_5 {w : am_Wd} {l2 : Int32} {s0 : Nat} : am_run 202 5 [none, none, some (.int l2), none] [.ref s0] w = (am_x 92 [.int l2, .int (nI 0), .int (nI 3)] w).bind fun r => bct r fun v w' => am_run 202 12 [none, none, some (.int l2), some (.ref s0)] (v.toList ++ []) w' := by
  refine (bu (ls'' := [none, none, some (.int l2), some (.ref s0)]) (st' := []) bf202_5 bf202_6 rfl rfl).trans ?_
  refine (bu (ls'' := [none, none, some (.int l2), some (.ref s0)]) (st' := [.int l2]) bf202_6 bf202_7 rfl rfl).trans ?_
  refine (bu (ls'' := [none, none, some (.int l2), some (.ref s0)]) (st' := [.int (nI 0), .int l2]) bf202_7 bf202_8 rfl rfl).trans ?_
  refine (bu (ls'' := [none, none, some (.int l2), some (.ref s0)]) (st' := [.int (nI 3), .int (nI 0), .int l2]) bf202_8 bf202_9 rfl rfl).trans ?_
  exact bkS bf202_9 bf202_12 rfl (by decide +kernel) (Nat.le_of_ble_eq_true rfl) rfl (bhd rfl)
theorem bk202_12 {w : am_Wd} {l2 : Int32} {l3 : Nat} : am_run 202 12 [none, none, some (.int l2), some (.ref l3)] [] w = (am_kf w l3 6).bind fun _ => (am_x 164 [.ref l3, .int l2] w).bind fun r => bct r fun v w' => am_run 202 17 [none, none, none, none] (v.toList ++ []) w' := by
  refine (bu (ls'' := [none, none, some (.int l2), none]) (st' := [.ref l3]) bf202_12 bf202_13 rfl rfl).trans ?_
  refine (bu (ls'' := [none, none, none, none]) (st' := [.int l2, .ref l3]) bf202_13 bf202_14 rfl rfl).trans ?_
  exact bkV bf202_14 bf202_17 rfl (by decide +kernel) (Nat.le_of_ble_eq_true rfl) rfl (bhd rfl)
theorem bk202_17 {w : am_Wd} {s0 : Int32} : am_run 202 17 [none, none, none, none] [.int s0] w = some (.inl (some (.int s0)), w) := by
  exact am_e2 bf202_17 rfl (am_ge_rf w)
theorem bf203_0 : am_fetch (am_mth 203) 0 = some (.aload_n 0, 1, [], [2, 3, 4]) := by decide +kernel
theorem bf203_1 : am_fetch (am_mth 203) 1 = some (.iload_n 1, 1, [], [0, 2, 3, 4]) := by decide +kernel
theorem bf203_2 : am_fetch (am_mth 203) 2 = some (.invokevirtual 89, 3, [0, 31, 1, 8, 352, 354, 4, 46], [0, 1, 2, 3, 4]) := by decide +kernel
theorem bf203_5 : am_fetch (am_mth 203) 5 = some (.astore_n 2, 1, [], [0, 1, 2, 3, 4]) := by decide +kernel
theorem bf203_6 : am_fetch (am_mth 203) 6 = some (.iconst 0, 1, [], [0, 1, 3, 4]) := by decide +kernel
theorem bf203_7 : am_fetch (am_mth 203) 7 = some (.istore_n 3, 1, [], [0, 1, 3, 4]) := by decide +kernel
theorem bf203_8 : am_fetch (am_mth 203) 8 = some (.iconst 1, 1, [], [0, 1, 4]) := by decide +kernel
theorem bf203_9 : am_fetch (am_mth 203) 9 = some (.istore 4, 2, [], [0, 1, 4]) := by decide +kernel
theorem bf203_11 : am_fetch (am_mth 203) 11 = some (.iload 4, 2, [], [0, 1]) := by decide +kernel
theorem bf203_13 : am_fetch (am_mth 203) 13 = some (.iconst 4, 1, [], [0, 1]) := by decide +kernel
theorem bf203_14 : am_fetch (am_mth 203) 14 = some (.if_icmp .ge 26, 3, [], [0, 1]) := by decide +kernel
theorem bf203_17 : am_fetch (am_mth 203) 17 = some (.aload_n 2, 1, [], [0, 1]) := by decide +kernel
theorem bf203_18 : am_fetch (am_mth 203) 18 = some (.iload 4, 2, [], [0, 1]) := by decide +kernel
theorem bf203_20 : am_fetch (am_mth 203) 20 = some (.invokevirtual 280, 3, [0, 164, 1, 6, 425, 426, 427, 63], [0, 1]) := by decide +kernel
theorem bf203_23 : am_fetch (am_mth 203) 23 = some (.aload_n 2, 1, [], [0, 1]) := by decide +kernel
theorem bf203_24 : am_fetch (am_mth 203) 24 = some (.iload_n 3, 1, [], [0, 1]) := by decide +kernel
theorem bf203_25 : am_fetch (am_mth 203) 25 = some (.invokevirtual 280, 3, [0, 164, 1, 6, 425, 426, 427, 63], [0, 1]) := by decide +kernel
theorem bf203_28 : am_fetch (am_mth 203) 28 = some (.if_icmp .ge 6, 3, [], [0, 1]) := by decide +kernel
theorem bf203_31 : am_fetch (am_mth 203) 31 = some (.iload 4, 2, [], [0, 1, 3]) := by decide +kernel
theorem bf203_33 : am_fetch (am_mth 203) 33 = some (.istore_n 3, 1, [], [0, 1, 3]) := by decide +kernel
theorem bf203_34 : am_fetch (am_mth 203) 34 = some (.iinc 4 1, 3, [], [0, 1]) := by decide +kernel
theorem bf203_37 : am_fetch (am_mth 203) 37 = some (.goto (-26), 3, [], [0, 1]) := by decide +kernel
theorem bf203_40 : am_fetch (am_mth 203) 40 = some (.iload_n 3, 1, [], [0, 1, 2, 4]) := by decide +kernel
theorem bf203_41 : am_fetch (am_mth 203) 41 = some (.ireturn, 1, [0], [0, 1, 2, 3, 4]) := by decide +kernel
theorem bk203_0 {w : am_Wd} {l0 : Nat} {l1 : Int32} : am_run 203 0 [some (.ref l0), some (.int l1), none, none, none] [] w = (am_kf w l0 8).bind fun _ => (am_x 31 [.ref l0, .int l1] w).bind fun r => bct r fun v w' => am_run 203 5 [none, none, none, none, none] (v.toList ++ []) w' := by
  refine (bu (ls'' := [none, some (.int l1), none, none, none]) (st' := [.ref l0]) bf203_0 bf203_1 rfl rfl).trans ?_
  refine (bu (ls'' := [none, none, none, none, none]) (st' := [.int l1, .ref l0]) bf203_1 bf203_2 rfl rfl).trans ?_
  exact bkV bf203_2 bf203_5 rfl (by decide +kernel) (Nat.le_of_ble_eq_true rfl) rfl (bhd rfl)
theorem bk203_5 {w : am_Wd} {s0 : Nat} : am_run 203 5 [none, none, none, none, none] [.ref s0] w = am_run 203 11 [none, none, some (.ref s0), some (.int (nI 0)), some (.int (nI 1))] [] w := by
  refine (bu (ls'' := [none, none, some (.ref s0), none, none]) (st' := []) bf203_5 bf203_6 rfl rfl).trans ?_
  refine (bu (ls'' := [none, none, some (.ref s0), none, none]) (st' := [.int (nI 0)]) bf203_6 bf203_7 rfl rfl).trans ?_
  refine (bu (ls'' := [none, none, some (.ref s0), some (.int (nI 0)), none]) (st' := []) bf203_7 bf203_8 rfl rfl).trans ?_
  refine (bu (ls'' := [none, none, some (.ref s0), some (.int (nI 0)), none]) (st' := [.int (nI 1)]) bf203_8 bf203_9 rfl rfl).trans ?_
  refine (bu (ls'' := [none, none, some (.ref s0), some (.int (nI 0)), some (.int (nI 1))]) (st' := []) bf203_9 bf203_11 rfl rfl).trans ?_
  rfl
theorem bk203_11 {w : am_Wd} {l2 : Nat} {l3 : Int32} {l4 : Int32} : am_run 203 11 [none, none, some (.ref l2), some (.int l3), some (.int l4)] [] w = if (nI 4) ≤ l4 then am_run 203 40 [none, none, none, some (.int l3), none] [] w else am_run 203 17 [none, none, some (.ref l2), some (.int l3), some (.int l4)] [] w := by
  refine (bu (ls'' := [none, none, some (.ref l2), some (.int l3), some (.int l4)]) (st' := [.int l4]) bf203_11 bf203_13 rfl rfl).trans ?_
  refine (bu (ls'' := [none, none, some (.ref l2), some (.int l3), some (.int l4)]) (st' := [.int (nI 4), .int l4]) bf203_13 bf203_14 rfl rfl).trans ?_
  exact bic bf203_14 rfl bf203_40 bf203_17 rfl rfl rfl
theorem bk203_40 {w : am_Wd} {l3 : Int32} : am_run 203 40 [none, none, none, some (.int l3), none] [] w = some (.inl (some (.int l3)), w) := by
  refine (bu (ls'' := [none, none, none, none, none]) (st' := [.int l3]) bf203_40 bf203_41 rfl rfl).trans ?_
  exact am_e2 bf203_41 rfl (am_ge_rf w)
theorem bk203_17 {w : am_Wd} {l2 : Nat} {l3 : Int32} {l4 : Int32} : am_run 203 17 [none, none, some (.ref l2), some (.int l3), some (.int l4)] [] w = (am_kf w l2 6).bind fun _ => (am_x 164 [.ref l2, .int l4] w).bind fun r => bct r fun v w' => am_run 203 23 [none, none, some (.ref l2), some (.int l3), some (.int l4)] (v.toList ++ []) w' := by
  refine (bu (ls'' := [none, none, some (.ref l2), some (.int l3), some (.int l4)]) (st' := [.ref l2]) bf203_17 bf203_18 rfl rfl).trans ?_
  refine (bu (ls'' := [none, none, some (.ref l2), some (.int l3), some (.int l4)]) (st' := [.int l4, .ref l2]) bf203_18 bf203_20 rfl rfl).trans ?_
  exact bkV bf203_20 bf203_23 rfl (by decide +kernel) (Nat.le_of_ble_eq_true rfl) rfl (bhd rfl)
theorem bk203_23 {w : am_Wd} {l2 : Nat} {l3 : Int32} {l4 : Int32} {s0 : Int32} : am_run 203 23 [none, none, some (.ref l2), some (.int l3), some (.int l4)] [.int s0] w = (am_kf w l2 6).bind fun _ => (am_x 164 [.ref l2, .int l3] w).bind fun r => bct r fun v w' => am_run 203 28 [none, none, some (.ref l2), some (.int l3), some (.int l4)] (v.toList ++ [.int s0]) w' := by
  refine (bu (ls'' := [none, none, some (.ref l2), some (.int l3), some (.int l4)]) (st' := [.ref l2, .int s0]) bf203_23 bf203_24 rfl rfl).trans ?_
  refine (bu (ls'' := [none, none, some (.ref l2), some (.int l3), some (.int l4)]) (st' := [.int l3, .ref l2, .int s0]) bf203_24 bf203_25 rfl rfl).trans ?_
  exact bkV bf203_25 bf203_28 rfl (by decide +kernel) (Nat.le_of_ble_eq_true rfl) rfl (bhd rfl)
theorem bk203_28 {w : am_Wd} {l2 : Nat} {l3 : Int32} {l4 : Int32} {s0 : Int32} {s1 : Int32} : am_run 203 28 [none, none, some (.ref l2), some (.int l3), some (.int l4)] [.int s0, .int s1] w = if s0 ≤ s1 then am_run 203 34 [none, none, some (.ref l2), some (.int l3), some (.int l4)] [] w else am_run 203 31 [none, none, some (.ref l2), none, some (.int l4)] [] w := by
  exact bic bf203_28 rfl bf203_34 bf203_31 rfl rfl rfl
theorem bk203_34 {w : am_Wd} {l2 : Nat} {l3 : Int32} {l4 : Int32} : am_run 203 34 [none, none, some (.ref l2), some (.int l3), some (.int l4)] [] w = am_run 203 11 [none, none, some (.ref l2), some (.int l3), some (.int (l4 + (nI 1)))] [] w := by
  refine (bu (ls'' := [none, none, some (.ref l2), some (.int l3), some (.int (l4 + (nI 1)))]) (st' := []) bf203_34 bf203_37 rfl rfl).trans ?_
  refine (bu (ls'' := [none, none, some (.ref l2), some (.int l3), some (.int (l4 + (nI 1)))]) (st' := []) bf203_37 bf203_11 rfl rfl).trans ?_
  rfl
theorem bk203_31 {w : am_Wd} {l2 : Nat} {l4 : Int32} : am_run 203 31 [none, none, some (.ref l2), none, some (.int l4)] [] w = am_run 203 34 [none, none, some (.ref l2), some (.int l4), some (.int l4)] [] w := by
  refine (bu (ls'' := [none, none, some (.ref l2), none, some (.int l4)]) (st' := [.int l4]) bf203_31 bf203_33 rfl rfl).trans ?_
  refine (bu (ls'' := [none, none, some (.ref l2), some (.int l4), some (.int l4)]) (st' := []) bf203_33 bf203_34 rfl rfl).trans ?_
  rfl
theorem bf204_0 : am_fetch (am_mth 204) 0 = some (.iload_n 1, 1, [], []) := by decide +kernel
theorem bf204_1 : am_fetch (am_mth 204) 1 = some (.invokestatic 26, 3, [0, 29, 1, 311, 312, 46], []) := by decide +kernel
theorem bf204_4 : am_fetch (am_mth 204) 4 = some (.iload_n 2, 1, [], []) := by decide +kernel
theorem bf204_5 : am_fetch (am_mth 204) 5 = some (.iconst 0, 1, [], []) := by decide +kernel
theorem bf204_6 : am_fetch (am_mth 204) 6 = some (.iconst 3, 1, [], []) := by decide +kernel
theorem bf204_7 : am_fetch (am_mth 204) 7 = some (.invokestatic 43, 3, [0, 92, 3, 220, 221, 46], []) := by decide +kernel
theorem bf204_10 : am_fetch (am_mth 204) 10 = some (.aload_n 0, 1, [], []) := by decide +kernel
theorem bf204_11 : am_fetch (am_mth 204) 11 = some (.getfield 10, 3, [0, 8, 0, 111], []) := by decide +kernel
theorem bf204_14 : am_fetch (am_mth 204) 14 = some (.iload_n 1, 1, [], []) := by decide +kernel
theorem bf204_15 : am_fetch (am_mth 204) 15 = some (.iload_n 2, 1, [], [1]) := by decide +kernel
theorem bf204_16 : am_fetch (am_mth 204) 16 = some (.aload_n 0, 1, [], [1, 2]) := by decide +kernel
theorem bf204_17 : am_fetch (am_mth 204) 17 = some (.invokevirtual 110, 3, [0, 33, 0, 8, 165, 167, 1, 46], [0, 1, 2]) := by decide +kernel
theorem bf204_20 : am_fetch (am_mth 204) 20 = some (.invokevirtual 142, 3, [0, 158, 3, 5, 743, 744, 745, 47], [0, 1, 2]) := by decide +kernel
theorem bf204_23 : am_fetch (am_mth 204) 23 = some (.ireturn, 1, [0], [0, 1, 2]) := by decide +kernel
theorem bk204_0 {w : am_Wd} {l0 : Nat} {l1 : Int32} {l2 : Int32} : am_run 204 0 [some (.ref l0), some (.int l1), some (.int l2)] [] w = (am_x 29 [.int l1] w).bind fun r => bct r fun v w' => am_run 204 4 [some (.ref l0), some (.int l1), some (.int l2)] (v.toList ++ []) w' := by
  refine (bu (ls'' := [some (.ref l0), some (.int l1), some (.int l2)]) (st' := [.int l1]) bf204_0 bf204_1 rfl rfl).trans ?_
  exact bkS bf204_1 bf204_4 rfl (by decide +kernel) (Nat.le_of_ble_eq_true rfl) rfl (bhd rfl)
theorem bk204_4 {w : am_Wd} {l0 : Nat} {l1 : Int32} {l2 : Int32} : am_run 204 4 [some (.ref l0), some (.int l1), some (.int l2)] [] w = (am_x 92 [.int l2, .int (nI 0), .int (nI 3)] w).bind fun r => bct r fun v w' => am_run 204 10 [some (.ref l0), some (.int l1), some (.int l2)] (v.toList ++ []) w' := by
  refine (bu (ls'' := [some (.ref l0), some (.int l1), some (.int l2)]) (st' := [.int l2]) bf204_4 bf204_5 rfl rfl).trans ?_
  refine (bu (ls'' := [some (.ref l0), some (.int l1), some (.int l2)]) (st' := [.int (nI 0), .int l2]) bf204_5 bf204_6 rfl rfl).trans ?_
  refine (bu (ls'' := [some (.ref l0), some (.int l1), some (.int l2)]) (st' := [.int (nI 3), .int (nI 0), .int l2]) bf204_6 bf204_7 rfl rfl).trans ?_
  exact bkS bf204_7 bf204_10 rfl (by decide +kernel) (Nat.le_of_ble_eq_true rfl) rfl (bhd rfl)
theorem bk204_10 {w : am_Wd} {l0 : Nat} {l1 : Int32} {l2 : Int32} : am_run 204 10 [some (.ref l0), some (.int l1), some (.int l2)] [] w = (am_gf w l0 8 0).bind fun v => am_run 204 14 [some (.ref l0), some (.int l1), some (.int l2)] (v :: []) w := by
  refine (bu (ls'' := [some (.ref l0), some (.int l1), some (.int l2)]) (st' := [.ref l0]) bf204_10 bf204_11 rfl rfl).trans ?_
  exact bh bf204_11 bf204_14 rfl (fun _ _ => am_ge_rf w) rfl
theorem bk204_14 {w : am_Wd} {l0 : Nat} {l1 : Int32} {l2 : Int32} {s0 : Nat} : am_run 204 14 [some (.ref l0), some (.int l1), some (.int l2)] [.ref s0] w = (am_kf w l0 8).bind fun _ => (am_x 33 [.ref l0] w).bind fun r => bct r fun v w' => am_run 204 20 [none, none, none] (v.toList ++ [.int l2, .int l1, .ref s0]) w' := by
  refine (bu (ls'' := [some (.ref l0), none, some (.int l2)]) (st' := [.int l1, .ref s0]) bf204_14 bf204_15 rfl rfl).trans ?_
  refine (bu (ls'' := [some (.ref l0), none, none]) (st' := [.int l2, .int l1, .ref s0]) bf204_15 bf204_16 rfl rfl).trans ?_
  refine (bu (ls'' := [none, none, none]) (st' := [.ref l0, .int l2, .int l1, .ref s0]) bf204_16 bf204_17 rfl rfl).trans ?_
  exact bkV bf204_17 bf204_20 rfl (by decide +kernel) (Nat.le_of_ble_eq_true rfl) rfl (bhd rfl)
theorem bk204_20 {w : am_Wd} {s0 : Int32} {s1 : Int32} {s2 : Int32} {s3 : Nat} : am_run 204 20 [none, none, none] [.int s0, .int s1, .int s2, .ref s3] w = (am_kf w s3 5).bind fun _ => (am_x 158 [.ref s3, .int s2, .int s1, .int s0] w).bind fun r => bct r fun v w' => am_run 204 23 [none, none, none] (v.toList ++ []) w' := by
  exact bkV bf204_20 bf204_23 rfl (by decide +kernel) (Nat.le_of_ble_eq_true rfl) rfl (bhd rfl)
theorem bk204_23 {w : am_Wd} {s0 : Int32} : am_run 204 23 [none, none, none] [.int s0] w = some (.inl (some (.int s0)), w) := by
  exact am_e2 bf204_23 rfl (am_ge_rf w)
theorem bf205_0 : am_fetch (am_mth 205) 0 = some (.aload_n 0, 1, [], [2, 3, 4]) := by decide +kernel
theorem bf205_1 : am_fetch (am_mth 205) 1 = some (.invokevirtual 110, 3, [0, 33, 0, 8, 165, 167, 1, 46], [2, 3, 4]) := by decide +kernel
theorem bf205_4 : am_fetch (am_mth 205) 4 = some (.istore_n 2, 1, [], [2, 3, 4]) := by decide +kernel
theorem bf205_5 : am_fetch (am_mth 205) 5 = some (.aload_n 0, 1, [], [3, 4]) := by decide +kernel
theorem bf205_6 : am_fetch (am_mth 205) 6 = some (.getfield 10, 3, [0, 8, 0, 111], [3, 4]) := by decide +kernel
theorem bf205_9 : am_fetch (am_mth 205) 9 = some (.aload_n 1, 1, [], [3, 4]) := by decide +kernel
theorem bf205_10 : am_fetch (am_mth 205) 10 = some (.getfield 179, 3, [1, 6, 1, 613], [3, 4]) := by decide +kernel
theorem bf205_13 : am_fetch (am_mth 205) 13 = some (.iconst 1, 1, [], [3, 4]) := by decide +kernel
theorem bf205_14 : am_fetch (am_mth 205) 14 = some (.iload_n 2, 1, [], [3, 4]) := by decide +kernel
theorem bf205_15 : am_fetch (am_mth 205) 15 = some (.invokevirtual 207, 3, [0, 159, 3, 5, 169, 170, 171, 47], [3, 4]) := by decide +kernel
theorem bf205_18 : am_fetch (am_mth 205) 18 = some (.istore_n 3, 1, [], [3, 4]) := by decide +kernel
theorem bf205_19 : am_fetch (am_mth 205) 19 = some (.aload_n 0, 1, [], [4]) := by decide +kernel
theorem bf205_20 : am_fetch (am_mth 205) 20 = some (.getfield 10, 3, [0, 8, 0, 111], [0, 4]) := by decide +kernel
theorem bf205_23 : am_fetch (am_mth 205) 23 = some (.aload_n 1, 1, [], [0, 4]) := by decide +kernel
theorem bf205_24 : am_fetch (am_mth 205) 24 = some (.getfield 179, 3, [1, 6, 1, 613], [0, 4]) := by decide +kernel
theorem bf205_27 : am_fetch (am_mth 205) 27 = some (.iconst 0, 1, [], [0, 4]) := by decide +kernel
theorem bf205_28 : am_fetch (am_mth 205) 28 = some (.iload_n 2, 1, [], [0, 4]) := by decide +kernel
theorem bf205_29 : am_fetch (am_mth 205) 29 = some (.invokevirtual 207, 3, [0, 159, 3, 5, 169, 170, 171, 47], [0, 2, 4]) := by decide +kernel
theorem bf205_32 : am_fetch (am_mth 205) 32 = some (.istore 4, 2, [], [0, 2, 4]) := by decide +kernel
theorem bf205_34 : am_fetch (am_mth 205) 34 = some (.iload_n 3, 1, [], [0, 2]) := by decide +kernel
theorem bf205_35 : am_fetch (am_mth 205) 35 = some (.iload 4, 2, [], [0, 2, 3]) := by decide +kernel
theorem bf205_37 : am_fetch (am_mth 205) 37 = some (.iadd, 1, [], [0, 2, 3, 4]) := by decide +kernel
theorem bf205_38 : am_fetch (am_mth 205) 38 = some (.aload_n 1, 1, [], [0, 2, 3, 4]) := by decide +kernel
theorem bf205_39 : am_fetch (am_mth 205) 39 = some (.getfield 179, 3, [1, 6, 1, 613], [0, 2, 3, 4]) := by decide +kernel
theorem bf205_42 : am_fetch (am_mth 205) 42 = some (.invokevirtual 377, 3, [0, 83, 0, 7, 202, 203, 204, 64], [0, 2, 3, 4]) := by decide +kernel
theorem bf205_45 : am_fetch (am_mth 205) 45 = some (.aload_n 1, 1, [], [0, 2, 3, 4]) := by decide +kernel
theorem bf205_46 : am_fetch (am_mth 205) 46 = some (.getfield 179, 3, [1, 6, 1, 613], [0, 1, 2, 3, 4]) := by decide +kernel
theorem bf205_49 : am_fetch (am_mth 205) 49 = some (.invokevirtual 380, 3, [0, 84, 0, 7, 207, 208, 209, 64], [0, 1, 2, 3, 4]) := by decide +kernel
theorem bf205_52 : am_fetch (am_mth 205) 52 = some (.iadd, 1, [], [0, 1, 2, 3, 4]) := by decide +kernel
theorem bf205_53 : am_fetch (am_mth 205) 53 = some (.if_icmp .ne 7, 3, [], [0, 1, 2, 3, 4]) := by decide +kernel
theorem bf205_56 : am_fetch (am_mth 205) 56 = some (.iconst 1, 1, [], [0, 1, 2, 3, 4]) := by decide +kernel
theorem bf205_57 : am_fetch (am_mth 205) 57 = some (.goto 4, 3, [], [0, 1, 2, 3, 4]) := by decide +kernel
theorem bf205_60 : am_fetch (am_mth 205) 60 = some (.iconst 0, 1, [], [0, 1, 2, 3, 4]) := by decide +kernel
theorem bf205_61 : am_fetch (am_mth 205) 61 = some (.ireturn, 1, [1], [0, 1, 2, 3, 4]) := by decide +kernel
theorem bk205_0 {w : am_Wd} {l0 : Nat} {l1 : Nat} : am_run 205 0 [some (.ref l0), some (.ref l1), none, none, none] [] w = (am_kf w l0 8).bind fun _ => (am_x 33 [.ref l0] w).bind fun r => bct r fun v w' => am_run 205 4 [some (.ref l0), some (.ref l1), none, none, none] (v.toList ++ []) w' := by
  refine (bu (ls'' := [some (.ref l0), some (.ref l1), none, none, none]) (st' := [.ref l0]) bf205_0 bf205_1 rfl rfl).trans ?_
  exact bkV bf205_1 bf205_4 rfl (by decide +kernel) (Nat.le_of_ble_eq_true rfl) rfl (bhd rfl)
theorem bk205_4 {w : am_Wd} {l0 : Nat} {l1 : Nat} {s0 : Int32} : am_run 205 4 [some (.ref l0), some (.ref l1), none, none, none] [.int s0] w = (am_gf w l0 8 0).bind fun v => am_run 205 9 [some (.ref l0), some (.ref l1), some (.int s0), none, none] (v :: []) w := by
  refine (bu (ls'' := [some (.ref l0), some (.ref l1), some (.int s0), none, none]) (st' := []) bf205_4 bf205_5 rfl rfl).trans ?_
  refine (bu (ls'' := [some (.ref l0), some (.ref l1), some (.int s0), none, none]) (st' := [.ref l0]) bf205_5 bf205_6 rfl rfl).trans ?_
  exact bh bf205_6 bf205_9 rfl (fun _ _ => am_ge_rf w) rfl
theorem bk205_9 {w : am_Wd} {l0 : Nat} {l1 : Nat} {l2 : Int32} {s0 : Nat} : am_run 205 9 [some (.ref l0), some (.ref l1), some (.int l2), none, none] [.ref s0] w = (am_gf w l1 6 1).bind fun v => am_run 205 13 [some (.ref l0), some (.ref l1), some (.int l2), none, none] (v :: [.ref s0]) w := by
  refine (bu (ls'' := [some (.ref l0), some (.ref l1), some (.int l2), none, none]) (st' := [.ref l1, .ref s0]) bf205_9 bf205_10 rfl rfl).trans ?_
  exact bh bf205_10 bf205_13 rfl (fun _ _ => am_ge_rf w) rfl
theorem bk205_13 {w : am_Wd} {l0 : Nat} {l1 : Nat} {l2 : Int32} {s0 : Nat} {s1 : Nat} : am_run 205 13 [some (.ref l0), some (.ref l1), some (.int l2), none, none] [.ref s0, .ref s1] w = (am_kf w s1 5).bind fun _ => (am_x 159 [.ref s1, .ref s0, .int (nI 1), .int l2] w).bind fun r => bct r fun v w' => am_run 205 18 [some (.ref l0), some (.ref l1), some (.int l2), none, none] (v.toList ++ []) w' := by
  refine (bu (ls'' := [some (.ref l0), some (.ref l1), some (.int l2), none, none]) (st' := [.int (nI 1), .ref s0, .ref s1]) bf205_13 bf205_14 rfl rfl).trans ?_
  refine (bu (ls'' := [some (.ref l0), some (.ref l1), some (.int l2), none, none]) (st' := [.int l2, .int (nI 1), .ref s0, .ref s1]) bf205_14 bf205_15 rfl rfl).trans ?_
  exact bkV bf205_15 bf205_18 rfl (by decide +kernel) (Nat.le_of_ble_eq_true rfl) rfl (bhd rfl)
theorem bk205_18 {w : am_Wd} {l0 : Nat} {l1 : Nat} {l2 : Int32} {s0 : Int32} : am_run 205 18 [some (.ref l0), some (.ref l1), some (.int l2), none, none] [.int s0] w = (am_gf w l0 8 0).bind fun v => am_run 205 23 [none, some (.ref l1), some (.int l2), some (.int s0), none] (v :: []) w := by
  refine (bu (ls'' := [some (.ref l0), some (.ref l1), some (.int l2), some (.int s0), none]) (st' := []) bf205_18 bf205_19 rfl rfl).trans ?_
  refine (bu (ls'' := [none, some (.ref l1), some (.int l2), some (.int s0), none]) (st' := [.ref l0]) bf205_19 bf205_20 rfl rfl).trans ?_
  exact bh bf205_20 bf205_23 rfl (fun _ _ => am_ge_rf w) rfl
theorem bk205_23 {w : am_Wd} {l1 : Nat} {l2 : Int32} {l3 : Int32} {s0 : Nat} : am_run 205 23 [none, some (.ref l1), some (.int l2), some (.int l3), none] [.ref s0] w = (am_gf w l1 6 1).bind fun v => am_run 205 27 [none, some (.ref l1), some (.int l2), some (.int l3), none] (v :: [.ref s0]) w := by
  refine (bu (ls'' := [none, some (.ref l1), some (.int l2), some (.int l3), none]) (st' := [.ref l1, .ref s0]) bf205_23 bf205_24 rfl rfl).trans ?_
  exact bh bf205_24 bf205_27 rfl (fun _ _ => am_ge_rf w) rfl
theorem bk205_27 {w : am_Wd} {l1 : Nat} {l2 : Int32} {l3 : Int32} {s0 : Nat} {s1 : Nat} : am_run 205 27 [none, some (.ref l1), some (.int l2), some (.int l3), none] [.ref s0, .ref s1] w = (am_kf w s1 5).bind fun _ => (am_x 159 [.ref s1, .ref s0, .int (nI 0), .int l2] w).bind fun r => bct r fun v w' => am_run 205 32 [none, some (.ref l1), none, some (.int l3), none] (v.toList ++ []) w' := by
  refine (bu (ls'' := [none, some (.ref l1), some (.int l2), some (.int l3), none]) (st' := [.int (nI 0), .ref s0, .ref s1]) bf205_27 bf205_28 rfl rfl).trans ?_
  refine (bu (ls'' := [none, some (.ref l1), none, some (.int l3), none]) (st' := [.int l2, .int (nI 0), .ref s0, .ref s1]) bf205_28 bf205_29 rfl rfl).trans ?_
  exact bkV bf205_29 bf205_32 rfl (by decide +kernel) (Nat.le_of_ble_eq_true rfl) rfl (bhd rfl)
theorem bk205_32 {w : am_Wd} {l1 : Nat} {l3 : Int32} {s0 : Int32} : am_run 205 32 [none, some (.ref l1), none, some (.int l3), none] [.int s0] w = (am_gf w l1 6 1).bind fun v => am_run 205 42 [none, some (.ref l1), none, none, none] (v :: [.int (l3 + s0)]) w := by
  refine (bu (ls'' := [none, some (.ref l1), none, some (.int l3), some (.int s0)]) (st' := []) bf205_32 bf205_34 rfl rfl).trans ?_
  refine (bu (ls'' := [none, some (.ref l1), none, none, some (.int s0)]) (st' := [.int l3]) bf205_34 bf205_35 rfl rfl).trans ?_
  refine (bu (ls'' := [none, some (.ref l1), none, none, none]) (st' := [.int s0, .int l3]) bf205_35 bf205_37 rfl rfl).trans ?_
  refine (bu (ls'' := [none, some (.ref l1), none, none, none]) (st' := [.int (l3 + s0)]) bf205_37 bf205_38 rfl rfl).trans ?_
  refine (bu (ls'' := [none, some (.ref l1), none, none, none]) (st' := [.ref l1, .int (l3 + s0)]) bf205_38 bf205_39 rfl rfl).trans ?_
  exact bh bf205_39 bf205_42 rfl (fun _ _ => am_ge_rf w) rfl
theorem bk205_42 {w : am_Wd} {l1 : Nat} {s0 : Nat} {s1 : Int32} : am_run 205 42 [none, some (.ref l1), none, none, none] [.ref s0, .int s1] w = (am_kf w s0 7).bind fun _ => (am_x 83 [.ref s0] w).bind fun r => bct r fun v w' => am_run 205 45 [none, some (.ref l1), none, none, none] (v.toList ++ [.int s1]) w' := by
  exact bkV bf205_42 bf205_45 rfl (by decide +kernel) (Nat.le_of_ble_eq_true rfl) rfl (bhd rfl)
theorem bk205_45 {w : am_Wd} {l1 : Nat} {s0 : Int32} {s1 : Int32} : am_run 205 45 [none, some (.ref l1), none, none, none] [.int s0, .int s1] w = (am_gf w l1 6 1).bind fun v => am_run 205 49 [none, none, none, none, none] (v :: [.int s0, .int s1]) w := by
  refine (bu (ls'' := [none, none, none, none, none]) (st' := [.ref l1, .int s0, .int s1]) bf205_45 bf205_46 rfl rfl).trans ?_
  exact bh bf205_46 bf205_49 rfl (fun _ _ => am_ge_rf w) rfl
theorem bk205_49 {w : am_Wd} {s0 : Nat} {s1 : Int32} {s2 : Int32} : am_run 205 49 [none, none, none, none, none] [.ref s0, .int s1, .int s2] w = (am_kf w s0 7).bind fun _ => (am_x 84 [.ref s0] w).bind fun r => bct r fun v w' => am_run 205 52 [none, none, none, none, none] (v.toList ++ [.int s1, .int s2]) w' := by
  exact bkV bf205_49 bf205_52 rfl (by decide +kernel) (Nat.le_of_ble_eq_true rfl) rfl (bhd rfl)
theorem bk205_52 {w : am_Wd} {s0 : Int32} {s1 : Int32} {s2 : Int32} : am_run 205 52 [none, none, none, none, none] [.int s0, .int s1, .int s2] w = if ¬ s2 = (s1 + s0) then am_run 205 60 [none, none, none, none, none] [] w else am_run 205 56 [none, none, none, none, none] [] w := by
  refine (bu (ls'' := [none, none, none, none, none]) (st' := [.int (s1 + s0), .int s2]) bf205_52 bf205_53 rfl rfl).trans ?_
  exact bic bf205_53 rfl bf205_60 bf205_56 rfl rfl rfl
theorem bk205_60 {w : am_Wd}  : am_run 205 60 [none, none, none, none, none] [] w = am_run 205 61 [none, none, none, none, none] [.int (nI 0)] w := by
  refine (bu (ls'' := [none, none, none, none, none]) (st' := [.int (nI 0)]) bf205_60 bf205_61 rfl rfl).trans ?_
  rfl
theorem bk205_56 {w : am_Wd}  : am_run 205 56 [none, none, none, none, none] [] w = am_run 205 61 [none, none, none, none, none] [.int (nI 1)] w := by
  refine (bu (ls'' := [none, none, none, none, none]) (st' := [.int (nI 1)]) bf205_56 bf205_57 rfl rfl).trans ?_
  refine (bu (ls'' := [none, none, none, none, none]) (st' := [.int (nI 1)]) bf205_57 bf205_61 rfl rfl).trans ?_
  rfl
theorem bk205_61 {w : am_Wd} {s0 : Int32} (hb : am_ok (am_rt 1) (.int s0) = true) : am_run 205 61 [none, none, none, none, none] [.int s0] w = some (.inl (some (.int s0)), w) := by
  exact am_e2 bf205_61 (by unfold am_stp; exact if_pos ⟨by decide, hb⟩) (am_ge_rf w)
theorem bf206_0 : am_fetch (am_mth 206) 0 = some (.aload_n 0, 1, [], [2, 3, 4]) := by decide +kernel
theorem bf206_1 : am_fetch (am_mth 206) 1 = some (.iload_n 1, 1, [], [2, 3, 4]) := by decide +kernel
theorem bf206_2 : am_fetch (am_mth 206) 2 = some (.iconst 0, 1, [], [2, 3, 4]) := by decide +kernel
theorem bf206_3 : am_fetch (am_mth 206) 3 = some (.bipush 126, 2, [], [2, 3, 4]) := by decide +kernel
theorem bf206_5 : am_fetch (am_mth 206) 5 = some (.invokestatic 42, 3, [0, 39, 3, 1245, 1246, 48], [2, 3, 4]) := by decide +kernel
theorem bf206_8 : am_fetch (am_mth 206) 8 = some (.ifCond .ne 7, 3, [], [2, 3, 4]) := by decide +kernel
theorem bf206_11 : am_fetch (am_mth 206) 11 = some (.iconst 1, 1, [], [2, 3, 4]) := by decide +kernel
theorem bf206_12 : am_fetch (am_mth 206) 12 = some (.goto 4, 3, [], [2, 3, 4]) := by decide +kernel
theorem bf206_15 : am_fetch (am_mth 206) 15 = some (.iconst 0, 1, [], [2, 3, 4]) := by decide +kernel
theorem bf206_16 : am_fetch (am_mth 206) 16 = some (.iconst 1, 1, [], [2, 3, 4]) := by decide +kernel
theorem bf206_17 : am_fetch (am_mth 206) 17 = some (.invokevirtual 83, 3, [0, 96, 2, 11, 1251, 1253, 18, 48], [2, 3, 4]) := by decide +kernel
theorem bf206_20 : am_fetch (am_mth 206) 20 = some (.ifCond .eq 5, 3, [], [2, 3, 4]) := by decide +kernel
theorem bf206_23 : am_fetch (am_mth 206) 23 = some (.iconst 0, 1, [], [0, 1, 2, 3, 4]) := by decide +kernel
theorem bf206_24 : am_fetch (am_mth 206) 24 = some (.ireturn, 1, [0], [0, 1, 2, 3, 4]) := by decide +kernel
theorem bf206_25 : am_fetch (am_mth 206) 25 = some (.iload_n 1, 1, [], [2, 3, 4]) := by decide +kernel
theorem bf206_26 : am_fetch (am_mth 206) 26 = some (.istore_n 2, 1, [], [1, 2, 3, 4]) := by decide +kernel
theorem bf206_27 : am_fetch (am_mth 206) 27 = some (.iconst 0, 1, [], [1, 3, 4]) := by decide +kernel
theorem bf206_28 : am_fetch (am_mth 206) 28 = some (.istore_n 3, 1, [], [1, 3, 4]) := by decide +kernel
theorem bf206_29 : am_fetch (am_mth 206) 29 = some (.iload_n 3, 1, [], [1, 4]) := by decide +kernel
theorem bf206_30 : am_fetch (am_mth 206) 30 = some (.bipush 36, 2, [], [1, 4]) := by decide +kernel
theorem bf206_32 : am_fetch (am_mth 206) 32 = some (.if_icmp .ge 77, 3, [], [1, 4]) := by decide +kernel
theorem bf206_35 : am_fetch (am_mth 206) 35 = some (.iconst 0, 1, [], [1, 4]) := by decide +kernel
theorem bf206_36 : am_fetch (am_mth 206) 36 = some (.istore 4, 2, [], [1, 4]) := by decide +kernel
theorem bf206_38 : am_fetch (am_mth 206) 38 = some (.iload 4, 2, [], [1]) := by decide +kernel
theorem bf206_40 : am_fetch (am_mth 206) 40 = some (.iconst 2, 1, [], [1]) := by decide +kernel
theorem bf206_41 : am_fetch (am_mth 206) 41 = some (.if_icmp .ge 62, 3, [], [1]) := by decide +kernel
theorem bf206_44 : am_fetch (am_mth 206) 44 = some (.iload_n 3, 1, [], [1]) := by decide +kernel
theorem bf206_45 : am_fetch (am_mth 206) 45 = some (.iload 4, 2, [], [1]) := by decide +kernel
theorem bf206_47 : am_fetch (am_mth 206) 47 = some (.invokestatic 87, 3, [0, 143, 2, 1273, 1274, 48], [1]) := by decide +kernel
theorem bf206_50 : am_fetch (am_mth 206) 50 = some (.ifCond .ne 6, 3, [], [1]) := by decide +kernel
theorem bf206_53 : am_fetch (am_mth 206) 53 = some (.goto 44, 3, [], [1]) := by decide +kernel
theorem bf206_56 : am_fetch (am_mth 206) 56 = some (.bipush 29, 2, [], [1]) := by decide +kernel
theorem bf206_58 : am_fetch (am_mth 206) 58 = some (.iload_n 2, 1, [], [1]) := by decide +kernel
theorem bf206_59 : am_fetch (am_mth 206) 59 = some (.imul, 1, [], [1, 2]) := by decide +kernel
theorem bf206_60 : am_fetch (am_mth 206) 60 = some (.bipush 13, 2, [], [1, 2]) := by decide +kernel
theorem bf206_62 : am_fetch (am_mth 206) 62 = some (.iadd, 1, [], [1, 2]) := by decide +kernel
theorem bf206_63 : am_fetch (am_mth 206) 63 = some (.bipush 127, 2, [], [1, 2]) := by decide +kernel
theorem bf206_65 : am_fetch (am_mth 206) 65 = some (.irem, 1, [], [1, 2]) := by decide +kernel
theorem bf206_66 : am_fetch (am_mth 206) 66 = some (.istore_n 2, 1, [], [1, 2]) := by decide +kernel
theorem bf206_67 : am_fetch (am_mth 206) 67 = some (.aload_n 0, 1, [], [1]) := by decide +kernel
theorem bf206_68 : am_fetch (am_mth 206) 68 = some (.getfield 15, 3, [0, 11, 7, 1204], [1]) := by decide +kernel
theorem bf206_71 : am_fetch (am_mth 206) 71 = some (.iload_n 3, 1, [], [1]) := by decide +kernel
theorem bf206_72 : am_fetch (am_mth 206) 72 = some (.aaload, 1, [], [1]) := by decide +kernel
theorem bf206_73 : am_fetch (am_mth 206) 73 = some (.iload 4, 2, [], [1]) := by decide +kernel
theorem bf206_75 : am_fetch (am_mth 206) 75 = some (.iload_n 2, 1, [], [1]) := by decide +kernel
theorem bf206_76 : am_fetch (am_mth 206) 76 = some (.bipush 40, 2, [], [1]) := by decide +kernel
theorem bf206_78 : am_fetch (am_mth 206) 78 = some (.if_icmp .ge 7, 3, [], [1]) := by decide +kernel
theorem bf206_81 : am_fetch (am_mth 206) 81 = some (.iconst 1, 1, [], [1]) := by decide +kernel
theorem bf206_82 : am_fetch (am_mth 206) 82 = some (.goto 4, 3, [], [1]) := by decide +kernel
theorem bf206_85 : am_fetch (am_mth 206) 85 = some (.iconst 0, 1, [], [1]) := by decide +kernel
theorem bf206_86 : am_fetch (am_mth 206) 86 = some (.iastore, 1, [], [1]) := by decide +kernel
theorem bf206_87 : am_fetch (am_mth 206) 87 = some (.aload_n 0, 1, [], [1]) := by decide +kernel
theorem bf206_88 : am_fetch (am_mth 206) 88 = some (.getfield 18, 3, [0, 11, 8, 1205], [1]) := by decide +kernel
theorem bf206_91 : am_fetch (am_mth 206) 91 = some (.iload_n 3, 1, [], [1]) := by decide +kernel
theorem bf206_92 : am_fetch (am_mth 206) 92 = some (.aaload, 1, [], [1]) := by decide +kernel
theorem bf206_93 : am_fetch (am_mth 206) 93 = some (.iload 4, 2, [], [1]) := by decide +kernel
theorem bf206_95 : am_fetch (am_mth 206) 95 = some (.iconst 0, 1, [], [1]) := by decide +kernel
theorem bf206_96 : am_fetch (am_mth 206) 96 = some (.iastore, 1, [], [1]) := by decide +kernel
theorem bf206_97 : am_fetch (am_mth 206) 97 = some (.iinc 4 1, 3, [], [1]) := by decide +kernel
theorem bf206_100 : am_fetch (am_mth 206) 100 = some (.goto (-62), 3, [], [1]) := by decide +kernel
theorem bf206_103 : am_fetch (am_mth 206) 103 = some (.iinc 3 1, 3, [], [1, 4]) := by decide +kernel
theorem bf206_106 : am_fetch (am_mth 206) 106 = some (.goto (-77), 3, [], [1, 4]) := by decide +kernel
theorem bf206_109 : am_fetch (am_mth 206) 109 = some (.aload_n 0, 1, [], [1, 2, 3, 4]) := by decide +kernel
theorem bf206_110 : am_fetch (am_mth 206) 110 = some (.iconst 1, 1, [], [0, 1, 2, 3, 4]) := by decide +kernel
theorem bf206_111 : am_fetch (am_mth 206) 111 = some (.invokevirtual 90, 3, [0, 177, 1, 11, 1276, 1278, 20, 48], [0, 1, 2, 3, 4]) := by decide +kernel
theorem bf206_114 : am_fetch (am_mth 206) 114 = some (.ireturn, 1, [0], [0, 1, 2, 3, 4]) := by decide +kernel
theorem bk206_0 {w : am_Wd} {l0 : Nat} {l1 : Int32} : am_run 206 0 [some (.ref l0), some (.int l1), none, none, none] [] w = (am_x 39 [.int l1, .int (nI 0), .int (nI 126)] w).bind fun r => bct r fun v w' => am_run 206 8 [some (.ref l0), some (.int l1), none, none, none] (v.toList ++ [.ref l0]) w' := by
  refine (bu (ls'' := [some (.ref l0), some (.int l1), none, none, none]) (st' := [.ref l0]) bf206_0 bf206_1 rfl rfl).trans ?_
  refine (bu (ls'' := [some (.ref l0), some (.int l1), none, none, none]) (st' := [.int l1, .ref l0]) bf206_1 bf206_2 rfl rfl).trans ?_
  refine (bu (ls'' := [some (.ref l0), some (.int l1), none, none, none]) (st' := [.int (nI 0), .int l1, .ref l0]) bf206_2 bf206_3 rfl rfl).trans ?_
  refine (bu (ls'' := [some (.ref l0), some (.int l1), none, none, none]) (st' := [.int (nI 126), .int (nI 0), .int l1, .ref l0]) bf206_3 bf206_5 rfl rfl).trans ?_
  exact bkS bf206_5 bf206_8 rfl (by decide +kernel) (Nat.le_of_ble_eq_true rfl) rfl (bhd rfl)
theorem bk206_8 {w : am_Wd} {l0 : Nat} {l1 : Int32} {s0 : Int32} {s1 : Nat} : am_run 206 8 [some (.ref l0), some (.int l1), none, none, none] [.int s0, .ref s1] w = if ¬ s0 = nI 0 then am_run 206 15 [some (.ref l0), some (.int l1), none, none, none] [.ref s1] w else am_run 206 11 [some (.ref l0), some (.int l1), none, none, none] [.ref s1] w := by
  exact bifc bf206_8 rfl bf206_15 bf206_11 rfl rfl rfl
theorem bk206_15 {w : am_Wd} {l0 : Nat} {l1 : Int32} {s0 : Nat} : am_run 206 15 [some (.ref l0), some (.int l1), none, none, none] [.ref s0] w = am_run 206 16 [some (.ref l0), some (.int l1), none, none, none] [.int (nI 0), .ref s0] w := by
  refine (bu (ls'' := [some (.ref l0), some (.int l1), none, none, none]) (st' := [.int (nI 0), .ref s0]) bf206_15 bf206_16 rfl rfl).trans ?_
  rfl
theorem bk206_11 {w : am_Wd} {l0 : Nat} {l1 : Int32} {s0 : Nat} : am_run 206 11 [some (.ref l0), some (.int l1), none, none, none] [.ref s0] w = am_run 206 16 [some (.ref l0), some (.int l1), none, none, none] [.int (nI 1), .ref s0] w := by
  refine (bu (ls'' := [some (.ref l0), some (.int l1), none, none, none]) (st' := [.int (nI 1), .ref s0]) bf206_11 bf206_12 rfl rfl).trans ?_
  refine (bu (ls'' := [some (.ref l0), some (.int l1), none, none, none]) (st' := [.int (nI 1), .ref s0]) bf206_12 bf206_16 rfl rfl).trans ?_
  rfl
theorem bk206_16 {w : am_Wd} {l0 : Nat} {l1 : Int32} {s0 : Int32} {s1 : Nat} : am_run 206 16 [some (.ref l0), some (.int l1), none, none, none] [.int s0, .ref s1] w = (am_kf w s1 11).bind fun _ => (am_x 96 [.ref s1, .int s0, .int (nI 1)] w).bind fun r => bct r fun v w' => am_run 206 20 [some (.ref l0), some (.int l1), none, none, none] (v.toList ++ []) w' := by
  refine (bu (ls'' := [some (.ref l0), some (.int l1), none, none, none]) (st' := [.int (nI 1), .int s0, .ref s1]) bf206_16 bf206_17 rfl rfl).trans ?_
  exact bkV bf206_17 bf206_20 rfl (by decide +kernel) (Nat.le_of_ble_eq_true rfl) rfl (bhd rfl)
theorem bk206_20 {w : am_Wd} {l0 : Nat} {l1 : Int32} {s0 : Int32} : am_run 206 20 [some (.ref l0), some (.int l1), none, none, none] [.int s0] w = if s0 = nI 0 then am_run 206 25 [some (.ref l0), some (.int l1), none, none, none] [] w else am_run 206 23 [none, none, none, none, none] [] w := by
  exact bifc bf206_20 rfl bf206_25 bf206_23 rfl rfl rfl
theorem bk206_25 {w : am_Wd} {l0 : Nat} {l1 : Int32} : am_run 206 25 [some (.ref l0), some (.int l1), none, none, none] [] w = am_run 206 29 [some (.ref l0), none, some (.int l1), some (.int (nI 0)), none] [] w := by
  refine (bu (ls'' := [some (.ref l0), none, none, none, none]) (st' := [.int l1]) bf206_25 bf206_26 rfl rfl).trans ?_
  refine (bu (ls'' := [some (.ref l0), none, some (.int l1), none, none]) (st' := []) bf206_26 bf206_27 rfl rfl).trans ?_
  refine (bu (ls'' := [some (.ref l0), none, some (.int l1), none, none]) (st' := [.int (nI 0)]) bf206_27 bf206_28 rfl rfl).trans ?_
  refine (bu (ls'' := [some (.ref l0), none, some (.int l1), some (.int (nI 0)), none]) (st' := []) bf206_28 bf206_29 rfl rfl).trans ?_
  rfl
theorem bk206_23 {w : am_Wd}  : am_run 206 23 [none, none, none, none, none] [] w = some (.inl (some (.int (nI 0))), w) := by
  refine (bu (ls'' := [none, none, none, none, none]) (st' := [.int (nI 0)]) bf206_23 bf206_24 rfl rfl).trans ?_
  exact am_e2 bf206_24 rfl (am_ge_rf w)
theorem bk206_29 {w : am_Wd} {l0 : Nat} {l2 : Int32} {l3 : Int32} : am_run 206 29 [some (.ref l0), none, some (.int l2), some (.int l3), none] [] w = if (nI 36) ≤ l3 then am_run 206 109 [some (.ref l0), none, none, none, none] [] w else am_run 206 35 [some (.ref l0), none, some (.int l2), some (.int l3), none] [] w := by
  refine (bu (ls'' := [some (.ref l0), none, some (.int l2), some (.int l3), none]) (st' := [.int l3]) bf206_29 bf206_30 rfl rfl).trans ?_
  refine (bu (ls'' := [some (.ref l0), none, some (.int l2), some (.int l3), none]) (st' := [.int (nI 36), .int l3]) bf206_30 bf206_32 rfl rfl).trans ?_
  exact bic bf206_32 rfl bf206_109 bf206_35 rfl rfl rfl
theorem bk206_109 {w : am_Wd} {l0 : Nat} : am_run 206 109 [some (.ref l0), none, none, none, none] [] w = (am_kf w l0 11).bind fun _ => (am_x 177 [.ref l0, .int (nI 1)] w).bind fun r => bct r fun v w' => am_run 206 114 [none, none, none, none, none] (v.toList ++ []) w' := by
  refine (bu (ls'' := [none, none, none, none, none]) (st' := [.ref l0]) bf206_109 bf206_110 rfl rfl).trans ?_
  refine (bu (ls'' := [none, none, none, none, none]) (st' := [.int (nI 1), .ref l0]) bf206_110 bf206_111 rfl rfl).trans ?_
  exact bkV bf206_111 bf206_114 rfl (by decide +kernel) (Nat.le_of_ble_eq_true rfl) rfl (bhd rfl)
theorem bk206_35 {w : am_Wd} {l0 : Nat} {l2 : Int32} {l3 : Int32} : am_run 206 35 [some (.ref l0), none, some (.int l2), some (.int l3), none] [] w = am_run 206 38 [some (.ref l0), none, some (.int l2), some (.int l3), some (.int (nI 0))] [] w := by
  refine (bu (ls'' := [some (.ref l0), none, some (.int l2), some (.int l3), none]) (st' := [.int (nI 0)]) bf206_35 bf206_36 rfl rfl).trans ?_
  refine (bu (ls'' := [some (.ref l0), none, some (.int l2), some (.int l3), some (.int (nI 0))]) (st' := []) bf206_36 bf206_38 rfl rfl).trans ?_
  rfl
theorem bk206_114 {w : am_Wd} {s0 : Int32} : am_run 206 114 [none, none, none, none, none] [.int s0] w = some (.inl (some (.int s0)), w) := by
  exact am_e2 bf206_114 rfl (am_ge_rf w)
theorem bk206_38 {w : am_Wd} {l0 : Nat} {l2 : Int32} {l3 : Int32} {l4 : Int32} : am_run 206 38 [some (.ref l0), none, some (.int l2), some (.int l3), some (.int l4)] [] w = if (nI 2) ≤ l4 then am_run 206 103 [some (.ref l0), none, some (.int l2), some (.int l3), none] [] w else am_run 206 44 [some (.ref l0), none, some (.int l2), some (.int l3), some (.int l4)] [] w := by
  refine (bu (ls'' := [some (.ref l0), none, some (.int l2), some (.int l3), some (.int l4)]) (st' := [.int l4]) bf206_38 bf206_40 rfl rfl).trans ?_
  refine (bu (ls'' := [some (.ref l0), none, some (.int l2), some (.int l3), some (.int l4)]) (st' := [.int (nI 2), .int l4]) bf206_40 bf206_41 rfl rfl).trans ?_
  exact bic bf206_41 rfl bf206_103 bf206_44 rfl rfl rfl
theorem bk206_103 {w : am_Wd} {l0 : Nat} {l2 : Int32} {l3 : Int32} : am_run 206 103 [some (.ref l0), none, some (.int l2), some (.int l3), none] [] w = am_run 206 29 [some (.ref l0), none, some (.int l2), some (.int (l3 + (nI 1))), none] [] w := by
  refine (bu (ls'' := [some (.ref l0), none, some (.int l2), some (.int (l3 + (nI 1))), none]) (st' := []) bf206_103 bf206_106 rfl rfl).trans ?_
  refine (bu (ls'' := [some (.ref l0), none, some (.int l2), some (.int (l3 + (nI 1))), none]) (st' := []) bf206_106 bf206_29 rfl rfl).trans ?_
  rfl
theorem bk206_44 {w : am_Wd} {l0 : Nat} {l2 : Int32} {l3 : Int32} {l4 : Int32} : am_run 206 44 [some (.ref l0), none, some (.int l2), some (.int l3), some (.int l4)] [] w = (am_x 143 [.int l3, .int l4] w).bind fun r => bct r fun v w' => am_run 206 50 [some (.ref l0), none, some (.int l2), some (.int l3), some (.int l4)] (v.toList ++ []) w' := by
  refine (bu (ls'' := [some (.ref l0), none, some (.int l2), some (.int l3), some (.int l4)]) (st' := [.int l3]) bf206_44 bf206_45 rfl rfl).trans ?_
  refine (bu (ls'' := [some (.ref l0), none, some (.int l2), some (.int l3), some (.int l4)]) (st' := [.int l4, .int l3]) bf206_45 bf206_47 rfl rfl).trans ?_
  exact bkS bf206_47 bf206_50 rfl (by decide +kernel) (Nat.le_of_ble_eq_true rfl) rfl (bhd rfl)
theorem bk206_50 {w : am_Wd} {l0 : Nat} {l2 : Int32} {l3 : Int32} {l4 : Int32} {s0 : Int32} : am_run 206 50 [some (.ref l0), none, some (.int l2), some (.int l3), some (.int l4)] [.int s0] w = if ¬ s0 = nI 0 then am_run 206 56 [some (.ref l0), none, some (.int l2), some (.int l3), some (.int l4)] [] w else am_run 206 53 [some (.ref l0), none, some (.int l2), some (.int l3), some (.int l4)] [] w := by
  exact bifc bf206_50 rfl bf206_56 bf206_53 rfl rfl rfl
theorem bk206_56 {w : am_Wd} {l0 : Nat} {l2 : Int32} {l3 : Int32} {l4 : Int32} : am_run 206 56 [some (.ref l0), none, some (.int l2), some (.int l3), some (.int l4)] [] w = (am_gf w l0 11 7).bind fun v => am_run 206 71 [some (.ref l0), none, some (.int (bj_irem (((nI 29) * l2) + (nI 13)) (nI 127))), some (.int l3), some (.int l4)] (v :: []) w := by
  refine (bu (ls'' := [some (.ref l0), none, some (.int l2), some (.int l3), some (.int l4)]) (st' := [.int (nI 29)]) bf206_56 bf206_58 rfl rfl).trans ?_
  refine (bu (ls'' := [some (.ref l0), none, none, some (.int l3), some (.int l4)]) (st' := [.int l2, .int (nI 29)]) bf206_58 bf206_59 rfl rfl).trans ?_
  refine (bu (ls'' := [some (.ref l0), none, none, some (.int l3), some (.int l4)]) (st' := [.int ((nI 29) * l2)]) bf206_59 bf206_60 rfl rfl).trans ?_
  refine (bu (ls'' := [some (.ref l0), none, none, some (.int l3), some (.int l4)]) (st' := [.int (nI 13), .int ((nI 29) * l2)]) bf206_60 bf206_62 rfl rfl).trans ?_
  refine (bu (ls'' := [some (.ref l0), none, none, some (.int l3), some (.int l4)]) (st' := [.int (((nI 29) * l2) + (nI 13))]) bf206_62 bf206_63 rfl rfl).trans ?_
  refine (bu (ls'' := [some (.ref l0), none, none, some (.int l3), some (.int l4)]) (st' := [.int (nI 127), .int (((nI 29) * l2) + (nI 13))]) bf206_63 bf206_65 rfl rfl).trans ?_
  refine (bu (ls'' := [some (.ref l0), none, none, some (.int l3), some (.int l4)]) (st' := [.int (bj_irem (((nI 29) * l2) + (nI 13)) (nI 127))]) bf206_65 bf206_66 rfl rfl).trans ?_
  refine (bu (ls'' := [some (.ref l0), none, some (.int (bj_irem (((nI 29) * l2) + (nI 13)) (nI 127))), some (.int l3), some (.int l4)]) (st' := []) bf206_66 bf206_67 rfl rfl).trans ?_
  refine (bu (ls'' := [some (.ref l0), none, some (.int (bj_irem (((nI 29) * l2) + (nI 13)) (nI 127))), some (.int l3), some (.int l4)]) (st' := [.ref l0]) bf206_67 bf206_68 rfl rfl).trans ?_
  exact bh bf206_68 bf206_71 rfl (fun _ _ => am_ge_rf w) rfl
theorem bk206_53 {w : am_Wd} {l0 : Nat} {l2 : Int32} {l3 : Int32} {l4 : Int32} : am_run 206 53 [some (.ref l0), none, some (.int l2), some (.int l3), some (.int l4)] [] w = am_run 206 97 [some (.ref l0), none, some (.int l2), some (.int l3), some (.int l4)] [] w := by
  refine (bu (ls'' := [some (.ref l0), none, some (.int l2), some (.int l3), some (.int l4)]) (st' := []) bf206_53 bf206_97 rfl rfl).trans ?_
  rfl
theorem bk206_71 {w : am_Wd} {l0 : Nat} {l2 : Int32} {l3 : Int32} {l4 : Int32} {s0 : Nat} : am_run 206 71 [some (.ref l0), none, some (.int l2), some (.int l3), some (.int l4)] [.ref s0] w = (am_rq w s0 l3).bind fun v => am_run 206 73 [some (.ref l0), none, some (.int l2), some (.int l3), some (.int l4)] (v :: []) w := by
  refine (bu (ls'' := [some (.ref l0), none, some (.int l2), some (.int l3), some (.int l4)]) (st' := [.int l3, .ref s0]) bf206_71 bf206_72 rfl rfl).trans ?_
  exact bh bf206_72 bf206_73 rfl (fun _ _ => am_ge_rf w) rfl
theorem bk206_97 {w : am_Wd} {l0 : Nat} {l2 : Int32} {l3 : Int32} {l4 : Int32} : am_run 206 97 [some (.ref l0), none, some (.int l2), some (.int l3), some (.int l4)] [] w = am_run 206 38 [some (.ref l0), none, some (.int l2), some (.int l3), some (.int (l4 + (nI 1)))] [] w := by
  refine (bu (ls'' := [some (.ref l0), none, some (.int l2), some (.int l3), some (.int (l4 + (nI 1)))]) (st' := []) bf206_97 bf206_100 rfl rfl).trans ?_
  refine (bu (ls'' := [some (.ref l0), none, some (.int l2), some (.int l3), some (.int (l4 + (nI 1)))]) (st' := []) bf206_100 bf206_38 rfl rfl).trans ?_
  rfl
theorem bk206_73 {w : am_Wd} {l0 : Nat} {l2 : Int32} {l3 : Int32} {l4 : Int32} {s0 : Nat} : am_run 206 73 [some (.ref l0), none, some (.int l2), some (.int l3), some (.int l4)] [.ref s0] w = if (nI 40) ≤ l2 then am_run 206 85 [some (.ref l0), none, some (.int l2), some (.int l3), some (.int l4)] [.int l4, .ref s0] w else am_run 206 81 [some (.ref l0), none, some (.int l2), some (.int l3), some (.int l4)] [.int l4, .ref s0] w := by
  refine (bu (ls'' := [some (.ref l0), none, some (.int l2), some (.int l3), some (.int l4)]) (st' := [.int l4, .ref s0]) bf206_73 bf206_75 rfl rfl).trans ?_
  refine (bu (ls'' := [some (.ref l0), none, some (.int l2), some (.int l3), some (.int l4)]) (st' := [.int l2, .int l4, .ref s0]) bf206_75 bf206_76 rfl rfl).trans ?_
  refine (bu (ls'' := [some (.ref l0), none, some (.int l2), some (.int l3), some (.int l4)]) (st' := [.int (nI 40), .int l2, .int l4, .ref s0]) bf206_76 bf206_78 rfl rfl).trans ?_
  exact bic bf206_78 rfl bf206_85 bf206_81 rfl rfl rfl
theorem bk206_85 {w : am_Wd} {l0 : Nat} {l2 : Int32} {l3 : Int32} {l4 : Int32} {s0 : Int32} {s1 : Nat} : am_run 206 85 [some (.ref l0), none, some (.int l2), some (.int l3), some (.int l4)] [.int s0, .ref s1] w = am_run 206 86 [some (.ref l0), none, some (.int l2), some (.int l3), some (.int l4)] [.int (nI 0), .int s0, .ref s1] w := by
  refine (bu (ls'' := [some (.ref l0), none, some (.int l2), some (.int l3), some (.int l4)]) (st' := [.int (nI 0), .int s0, .ref s1]) bf206_85 bf206_86 rfl rfl).trans ?_
  rfl
theorem bk206_81 {w : am_Wd} {l0 : Nat} {l2 : Int32} {l3 : Int32} {l4 : Int32} {s0 : Int32} {s1 : Nat} : am_run 206 81 [some (.ref l0), none, some (.int l2), some (.int l3), some (.int l4)] [.int s0, .ref s1] w = am_run 206 86 [some (.ref l0), none, some (.int l2), some (.int l3), some (.int l4)] [.int (nI 1), .int s0, .ref s1] w := by
  refine (bu (ls'' := [some (.ref l0), none, some (.int l2), some (.int l3), some (.int l4)]) (st' := [.int (nI 1), .int s0, .ref s1]) bf206_81 bf206_82 rfl rfl).trans ?_
  refine (bu (ls'' := [some (.ref l0), none, some (.int l2), some (.int l3), some (.int l4)]) (st' := [.int (nI 1), .int s0, .ref s1]) bf206_82 bf206_86 rfl rfl).trans ?_
  rfl
theorem bk206_86 {w : am_Wd} {l0 : Nat} {l2 : Int32} {l3 : Int32} {l4 : Int32} {s0 : Int32} {s1 : Int32} {s2 : Nat} : am_run 206 86 [some (.ref l0), none, some (.int l2), some (.int l3), some (.int l4)] [.int s0, .int s1, .ref s2] w = (am_wi 0 w s2 s1 s0).bind fun w' => am_run 206 87 [some (.ref l0), none, some (.int l2), some (.int l3), some (.int l4)] [] w' := by
  exact bh bf206_86 bf206_87 rfl (bge_wi) rfl
theorem bk206_87 {w : am_Wd} {l0 : Nat} {l2 : Int32} {l3 : Int32} {l4 : Int32} : am_run 206 87 [some (.ref l0), none, some (.int l2), some (.int l3), some (.int l4)] [] w = (am_gf w l0 11 8).bind fun v => am_run 206 91 [some (.ref l0), none, some (.int l2), some (.int l3), some (.int l4)] (v :: []) w := by
  refine (bu (ls'' := [some (.ref l0), none, some (.int l2), some (.int l3), some (.int l4)]) (st' := [.ref l0]) bf206_87 bf206_88 rfl rfl).trans ?_
  exact bh bf206_88 bf206_91 rfl (fun _ _ => am_ge_rf w) rfl
theorem bk206_91 {w : am_Wd} {l0 : Nat} {l2 : Int32} {l3 : Int32} {l4 : Int32} {s0 : Nat} : am_run 206 91 [some (.ref l0), none, some (.int l2), some (.int l3), some (.int l4)] [.ref s0] w = (am_rq w s0 l3).bind fun v => am_run 206 93 [some (.ref l0), none, some (.int l2), some (.int l3), some (.int l4)] (v :: []) w := by
  refine (bu (ls'' := [some (.ref l0), none, some (.int l2), some (.int l3), some (.int l4)]) (st' := [.int l3, .ref s0]) bf206_91 bf206_92 rfl rfl).trans ?_
  exact bh bf206_92 bf206_93 rfl (fun _ _ => am_ge_rf w) rfl
theorem bk206_93 {w : am_Wd} {l0 : Nat} {l2 : Int32} {l3 : Int32} {l4 : Int32} {s0 : Nat} : am_run 206 93 [some (.ref l0), none, some (.int l2), some (.int l3), some (.int l4)] [.ref s0] w = (am_wi 0 w s0 l4 (nI 0)).bind fun w' => am_run 206 97 [some (.ref l0), none, some (.int l2), some (.int l3), some (.int l4)] [] w' := by
  refine (bu (ls'' := [some (.ref l0), none, some (.int l2), some (.int l3), some (.int l4)]) (st' := [.int l4, .ref s0]) bf206_93 bf206_95 rfl rfl).trans ?_
  refine (bu (ls'' := [some (.ref l0), none, some (.int l2), some (.int l3), some (.int l4)]) (st' := [.int (nI 0), .int l4, .ref s0]) bf206_95 bf206_96 rfl rfl).trans ?_
  exact bh bf206_96 bf206_97 rfl (bge_wi) rfl
theorem bf207_0 : am_fetch (am_mth 207) 0 = some (.aload_n 0, 1, [], [5]) := by decide +kernel
theorem bf207_1 : am_fetch (am_mth 207) 1 = some (.iload_n 1, 1, [], [5]) := by decide +kernel
theorem bf207_2 : am_fetch (am_mth 207) 2 = some (.invokestatic 76, 3, [0, 97, 1, 1242, 1243, 48], [5]) := by decide +kernel
theorem bf207_5 : am_fetch (am_mth 207) 5 = some (.iconst 1, 1, [], [5]) := by decide +kernel
theorem bf207_6 : am_fetch (am_mth 207) 6 = some (.invokevirtual 83, 3, [0, 96, 2, 11, 1251, 1253, 18, 48], [5]) := by decide +kernel
theorem bf207_9 : am_fetch (am_mth 207) 9 = some (.ifCond .ne 58, 3, [], [5]) := by decide +kernel
theorem bf207_12 : am_fetch (am_mth 207) 12 = some (.aload_n 0, 1, [], [5]) := by decide +kernel
theorem bf207_13 : am_fetch (am_mth 207) 13 = some (.iload_n 2, 1, [], [5]) := by decide +kernel
theorem bf207_14 : am_fetch (am_mth 207) 14 = some (.invokestatic 80, 3, [0, 98, 1, 1248, 1249, 48], [5]) := by decide +kernel
theorem bf207_17 : am_fetch (am_mth 207) 17 = some (.ifCond .ne 14, 3, [], [5]) := by decide +kernel
theorem bf207_20 : am_fetch (am_mth 207) 20 = some (.iload_n 3, 1, [], [5]) := by decide +kernel
theorem bf207_21 : am_fetch (am_mth 207) 21 = some (.iconst 1, 1, [], [5]) := by decide +kernel
theorem bf207_22 : am_fetch (am_mth 207) 22 = some (.sipush 500, 3, [], [5]) := by decide +kernel
theorem bf207_25 : am_fetch (am_mth 207) 25 = some (.invokestatic 42, 3, [0, 39, 3, 1245, 1246, 48], [5]) := by decide +kernel
theorem bf207_28 : am_fetch (am_mth 207) 28 = some (.ifCond .ne 7, 3, [], [5]) := by decide +kernel
theorem bf207_31 : am_fetch (am_mth 207) 31 = some (.iconst 1, 1, [], [5]) := by decide +kernel
theorem bf207_32 : am_fetch (am_mth 207) 32 = some (.goto 4, 3, [], [5]) := by decide +kernel
theorem bf207_35 : am_fetch (am_mth 207) 35 = some (.iconst 0, 1, [], [5]) := by decide +kernel
theorem bf207_36 : am_fetch (am_mth 207) 36 = some (.iconst 2, 1, [], [5]) := by decide +kernel
theorem bf207_37 : am_fetch (am_mth 207) 37 = some (.invokevirtual 38, 3, [0, 40, 2, 11, 1255, 1257, 19, 48], [5]) := by decide +kernel
theorem bf207_40 : am_fetch (am_mth 207) 40 = some (.ifCond .ne 27, 3, [], [5]) := by decide +kernel
theorem bf207_43 : am_fetch (am_mth 207) 43 = some (.aload_n 0, 1, [], [5]) := by decide +kernel
theorem bf207_44 : am_fetch (am_mth 207) 44 = some (.aload_n 0, 1, [], [5]) := by decide +kernel
theorem bf207_45 : am_fetch (am_mth 207) 45 = some (.getfield 31, 3, [0, 11, 11, 1208], [5]) := by decide +kernel
theorem bf207_48 : am_fetch (am_mth 207) 48 = some (.invokevirtual 46, 3, [0, 56, 0, 3, 1291, 1292, 1293, 51], [5]) := by decide +kernel
theorem bf207_51 : am_fetch (am_mth 207) 51 = some (.iconst 3, 1, [], [5]) := by decide +kernel
theorem bf207_52 : am_fetch (am_mth 207) 52 = some (.if_icmp .ne 7, 3, [], [5]) := by decide +kernel
theorem bf207_55 : am_fetch (am_mth 207) 55 = some (.iconst 1, 1, [], [5]) := by decide +kernel
theorem bf207_56 : am_fetch (am_mth 207) 56 = some (.goto 4, 3, [], [5]) := by decide +kernel
theorem bf207_59 : am_fetch (am_mth 207) 59 = some (.iconst 0, 1, [], [5]) := by decide +kernel
theorem bf207_60 : am_fetch (am_mth 207) 60 = some (.iconst 3, 1, [], [5]) := by decide +kernel
theorem bf207_61 : am_fetch (am_mth 207) 61 = some (.invokevirtual 38, 3, [0, 40, 2, 11, 1255, 1257, 19, 48], [5]) := by decide +kernel
theorem bf207_64 : am_fetch (am_mth 207) 64 = some (.ifCond .eq 5, 3, [], [5]) := by decide +kernel
theorem bf207_67 : am_fetch (am_mth 207) 67 = some (.iconst 0, 1, [], [0, 1, 2, 3, 4, 5]) := by decide +kernel
theorem bf207_68 : am_fetch (am_mth 207) 68 = some (.ireturn, 1, [0], [0, 1, 2, 3, 4, 5]) := by decide +kernel
theorem bf207_69 : am_fetch (am_mth 207) 69 = some (.new 72, 3, [0, 10, 9, 1295, 1296, 66], [5]) := by decide +kernel
theorem bf207_72 : am_fetch (am_mth 207) 72 = some (.dup, 1, [], [5]) := by decide +kernel
theorem bf207_73 : am_fetch (am_mth 207) 73 = some (.invokespecial 100, 3, [0, 36, 0, 1297, 1298, 66], [5]) := by decide +kernel
theorem bf207_76 : am_fetch (am_mth 207) 76 = some (.astore 5, 2, [], [5]) := by decide +kernel
theorem bf207_78 : am_fetch (am_mth 207) 78 = some (.aload 5, 2, [], []) := by decide +kernel
theorem bf207_80 : am_fetch (am_mth 207) 80 = some (.iconst 4, 1, [], []) := by decide +kernel
theorem bf207_81 : am_fetch (am_mth 207) 81 = some (.iload_n 1, 1, [], []) := by decide +kernel
theorem bf207_82 : am_fetch (am_mth 207) 82 = some (.imul, 1, [], []) := by decide +kernel
theorem bf207_83 : am_fetch (am_mth 207) 83 = some (.iload_n 2, 1, [], []) := by decide +kernel
theorem bf207_84 : am_fetch (am_mth 207) 84 = some (.iadd, 1, [], [2]) := by decide +kernel
theorem bf207_85 : am_fetch (am_mth 207) 85 = some (.putfield 101, 3, [0, 10, 0, 1303], [2]) := by decide +kernel
theorem bf207_88 : am_fetch (am_mth 207) 88 = some (.aload 5, 2, [], [2]) := by decide +kernel
theorem bf207_90 : am_fetch (am_mth 207) 90 = some (.iload_n 1, 1, [], [2]) := by decide +kernel
theorem bf207_91 : am_fetch (am_mth 207) 91 = some (.putfield 104, 3, [0, 10, 1, 1304], [1, 2]) := by decide +kernel
theorem bf207_94 : am_fetch (am_mth 207) 94 = some (.aload 5, 2, [], [1, 2]) := by decide +kernel
theorem bf207_96 : am_fetch (am_mth 207) 96 = some (.iload_n 3, 1, [], [1, 2]) := by decide +kernel
theorem bf207_97 : am_fetch (am_mth 207) 97 = some (.putfield 107, 3, [0, 10, 2, 1305], [1, 2, 3]) := by decide +kernel
theorem bf207_100 : am_fetch (am_mth 207) 100 = some (.iload 4, 2, [], [1, 2, 3]) := by decide +kernel
theorem bf207_102 : am_fetch (am_mth 207) 102 = some (.ifCond .eq 18, 3, [], [1, 2, 3, 4]) := by decide +kernel
theorem bf207_105 : am_fetch (am_mth 207) 105 = some (.aload 5, 2, [], [1, 2, 3, 4]) := by decide +kernel
theorem bf207_107 : am_fetch (am_mth 207) 107 = some (.getfield 97, 3, [0, 10, 3, 1307], [1, 2, 3, 4]) := by decide +kernel
theorem bf207_110 : am_fetch (am_mth 207) 110 = some (.aload 5, 2, [], [1, 2, 3, 4]) := by decide +kernel
theorem bf207_112 : am_fetch (am_mth 207) 112 = some (.getfield 101, 3, [0, 10, 0, 1303], [1, 2, 3, 4]) := by decide +kernel
theorem bf207_115 : am_fetch (am_mth 207) 115 = some (.iconst 1, 1, [], [1, 2, 3, 4]) := by decide +kernel
theorem bf207_116 : am_fetch (am_mth 207) 116 = some (.bastore, 1, [2], [1, 2, 3, 4]) := by decide +kernel
theorem bf207_117 : am_fetch (am_mth 207) 117 = some (.goto 8, 3, [], [1, 2, 3, 4]) := by decide +kernel
theorem bf207_120 : am_fetch (am_mth 207) 120 = some (.aload 5, 2, [], [1, 2, 3, 4]) := by decide +kernel
theorem bf207_122 : am_fetch (am_mth 207) 122 = some (.invokestatic 110, 3, [0, 45, 1, 1333, 1334, 48], [1, 2, 3, 4]) := by decide +kernel
theorem bf207_125 : am_fetch (am_mth 207) 125 = some (.aload_n 0, 1, [], [1, 2, 3, 4]) := by decide +kernel
theorem bf207_126 : am_fetch (am_mth 207) 126 = some (.getfield 31, 3, [0, 11, 11, 1208], [1, 2, 3, 4]) := by decide +kernel
theorem bf207_129 : am_fetch (am_mth 207) 129 = some (.aload 5, 2, [], [1, 2, 3, 4]) := by decide +kernel
theorem bf207_131 : am_fetch (am_mth 207) 131 = some (.invokevirtual 114, 3, [0, 195, 1, 3, 1336, 1337, 1338, 51], [1, 2, 3, 4, 5]) := by decide +kernel
theorem bf207_134 : am_fetch (am_mth 207) 134 = some (.pop, 1, [], [1, 2, 3, 4, 5]) := by decide +kernel
theorem bf207_135 : am_fetch (am_mth 207) 135 = some (.aload_n 0, 1, [], [1, 2, 3, 4, 5]) := by decide +kernel
theorem bf207_136 : am_fetch (am_mth 207) 136 = some (.getfield 31, 3, [0, 11, 11, 1208], [0, 1, 2, 3, 4, 5]) := by decide +kernel
theorem bf207_139 : am_fetch (am_mth 207) 139 = some (.invokevirtual 46, 3, [0, 56, 0, 3, 1291, 1292, 1293, 51], [0, 1, 2, 3, 4, 5]) := by decide +kernel
theorem bf207_142 : am_fetch (am_mth 207) 142 = some (.iconst 1, 1, [], [0, 1, 2, 3, 4, 5]) := by decide +kernel
theorem bf207_143 : am_fetch (am_mth 207) 143 = some (.isub, 1, [], [0, 1, 2, 3, 4, 5]) := by decide +kernel
theorem bf207_144 : am_fetch (am_mth 207) 144 = some (.ireturn, 1, [0], [0, 1, 2, 3, 4, 5]) := by decide +kernel
theorem bk207_0 {w : am_Wd} {l0 : Nat} {l1 : Int32} {l2 : Int32} {l3 : Int32} {l4 : Int32} : am_run 207 0 [some (.ref l0), some (.int l1), some (.int l2), some (.int l3), some (.int l4), none] [] w = (am_x 97 [.int l1] w).bind fun r => bct r fun v w' => am_run 207 5 [some (.ref l0), some (.int l1), some (.int l2), some (.int l3), some (.int l4), none] (v.toList ++ [.ref l0]) w' := by
  refine (bu (ls'' := [some (.ref l0), some (.int l1), some (.int l2), some (.int l3), some (.int l4), none]) (st' := [.ref l0]) bf207_0 bf207_1 rfl rfl).trans ?_
  refine (bu (ls'' := [some (.ref l0), some (.int l1), some (.int l2), some (.int l3), some (.int l4), none]) (st' := [.int l1, .ref l0]) bf207_1 bf207_2 rfl rfl).trans ?_
  exact bkS bf207_2 bf207_5 rfl (by decide +kernel) (Nat.le_of_ble_eq_true rfl) rfl (bhd rfl)
theorem bk207_5 {w : am_Wd} {l0 : Nat} {l1 : Int32} {l2 : Int32} {l3 : Int32} {l4 : Int32} {s0 : Int32} {s1 : Nat} : am_run 207 5 [some (.ref l0), some (.int l1), some (.int l2), some (.int l3), some (.int l4), none] [.int s0, .ref s1] w = (am_kf w s1 11).bind fun _ => (am_x 96 [.ref s1, .int s0, .int (nI 1)] w).bind fun r => bct r fun v w' => am_run 207 9 [some (.ref l0), some (.int l1), some (.int l2), some (.int l3), some (.int l4), none] (v.toList ++ []) w' := by
  refine (bu (ls'' := [some (.ref l0), some (.int l1), some (.int l2), some (.int l3), some (.int l4), none]) (st' := [.int (nI 1), .int s0, .ref s1]) bf207_5 bf207_6 rfl rfl).trans ?_
  exact bkV bf207_6 bf207_9 rfl (by decide +kernel) (Nat.le_of_ble_eq_true rfl) rfl (bhd rfl)
theorem bk207_9 {w : am_Wd} {l0 : Nat} {l1 : Int32} {l2 : Int32} {l3 : Int32} {l4 : Int32} {s0 : Int32} : am_run 207 9 [some (.ref l0), some (.int l1), some (.int l2), some (.int l3), some (.int l4), none] [.int s0] w = if ¬ s0 = nI 0 then am_run 207 67 [none, none, none, none, none, none] [] w else am_run 207 12 [some (.ref l0), some (.int l1), some (.int l2), some (.int l3), some (.int l4), none] [] w := by
  exact bifc bf207_9 rfl bf207_67 bf207_12 rfl rfl rfl
theorem bk207_67 {w : am_Wd}  : am_run 207 67 [none, none, none, none, none, none] [] w = some (.inl (some (.int (nI 0))), w) := by
  refine (bu (ls'' := [none, none, none, none, none, none]) (st' := [.int (nI 0)]) bf207_67 bf207_68 rfl rfl).trans ?_
  exact am_e2 bf207_68 rfl (am_ge_rf w)
theorem bk207_12 {w : am_Wd} {l0 : Nat} {l1 : Int32} {l2 : Int32} {l3 : Int32} {l4 : Int32} : am_run 207 12 [some (.ref l0), some (.int l1), some (.int l2), some (.int l3), some (.int l4), none] [] w = (am_x 98 [.int l2] w).bind fun r => bct r fun v w' => am_run 207 17 [some (.ref l0), some (.int l1), some (.int l2), some (.int l3), some (.int l4), none] (v.toList ++ [.ref l0]) w' := by
  refine (bu (ls'' := [some (.ref l0), some (.int l1), some (.int l2), some (.int l3), some (.int l4), none]) (st' := [.ref l0]) bf207_12 bf207_13 rfl rfl).trans ?_
  refine (bu (ls'' := [some (.ref l0), some (.int l1), some (.int l2), some (.int l3), some (.int l4), none]) (st' := [.int l2, .ref l0]) bf207_13 bf207_14 rfl rfl).trans ?_
  exact bkS bf207_14 bf207_17 rfl (by decide +kernel) (Nat.le_of_ble_eq_true rfl) rfl (bhd rfl)
theorem bk207_17 {w : am_Wd} {l0 : Nat} {l1 : Int32} {l2 : Int32} {l3 : Int32} {l4 : Int32} {s0 : Int32} {s1 : Nat} : am_run 207 17 [some (.ref l0), some (.int l1), some (.int l2), some (.int l3), some (.int l4), none] [.int s0, .ref s1] w = if ¬ s0 = nI 0 then am_run 207 31 [some (.ref l0), some (.int l1), some (.int l2), some (.int l3), some (.int l4), none] [.ref s1] w else am_run 207 20 [some (.ref l0), some (.int l1), some (.int l2), some (.int l3), some (.int l4), none] [.ref s1] w := by
  exact bifc bf207_17 rfl bf207_31 bf207_20 rfl rfl rfl
theorem bk207_31 {w : am_Wd} {l0 : Nat} {l1 : Int32} {l2 : Int32} {l3 : Int32} {l4 : Int32} {s0 : Nat} : am_run 207 31 [some (.ref l0), some (.int l1), some (.int l2), some (.int l3), some (.int l4), none] [.ref s0] w = am_run 207 36 [some (.ref l0), some (.int l1), some (.int l2), some (.int l3), some (.int l4), none] [.int (nI 1), .ref s0] w := by
  refine (bu (ls'' := [some (.ref l0), some (.int l1), some (.int l2), some (.int l3), some (.int l4), none]) (st' := [.int (nI 1), .ref s0]) bf207_31 bf207_32 rfl rfl).trans ?_
  refine (bu (ls'' := [some (.ref l0), some (.int l1), some (.int l2), some (.int l3), some (.int l4), none]) (st' := [.int (nI 1), .ref s0]) bf207_32 bf207_36 rfl rfl).trans ?_
  rfl
theorem bk207_20 {w : am_Wd} {l0 : Nat} {l1 : Int32} {l2 : Int32} {l3 : Int32} {l4 : Int32} {s0 : Nat} : am_run 207 20 [some (.ref l0), some (.int l1), some (.int l2), some (.int l3), some (.int l4), none] [.ref s0] w = (am_x 39 [.int l3, .int (nI 1), .int (nI 500)] w).bind fun r => bct r fun v w' => am_run 207 28 [some (.ref l0), some (.int l1), some (.int l2), some (.int l3), some (.int l4), none] (v.toList ++ [.ref s0]) w' := by
  refine (bu (ls'' := [some (.ref l0), some (.int l1), some (.int l2), some (.int l3), some (.int l4), none]) (st' := [.int l3, .ref s0]) bf207_20 bf207_21 rfl rfl).trans ?_
  refine (bu (ls'' := [some (.ref l0), some (.int l1), some (.int l2), some (.int l3), some (.int l4), none]) (st' := [.int (nI 1), .int l3, .ref s0]) bf207_21 bf207_22 rfl rfl).trans ?_
  refine (bu (ls'' := [some (.ref l0), some (.int l1), some (.int l2), some (.int l3), some (.int l4), none]) (st' := [.int (nI 500), .int (nI 1), .int l3, .ref s0]) bf207_22 bf207_25 rfl rfl).trans ?_
  exact bkS bf207_25 bf207_28 rfl (by decide +kernel) (Nat.le_of_ble_eq_true rfl) rfl (bhd rfl)
theorem bk207_36 {w : am_Wd} {l0 : Nat} {l1 : Int32} {l2 : Int32} {l3 : Int32} {l4 : Int32} {s0 : Int32} {s1 : Nat} : am_run 207 36 [some (.ref l0), some (.int l1), some (.int l2), some (.int l3), some (.int l4), none] [.int s0, .ref s1] w = (am_kf w s1 11).bind fun _ => (am_x 40 [.ref s1, .int s0, .int (nI 2)] w).bind fun r => bct r fun v w' => am_run 207 40 [some (.ref l0), some (.int l1), some (.int l2), some (.int l3), some (.int l4), none] (v.toList ++ []) w' := by
  refine (bu (ls'' := [some (.ref l0), some (.int l1), some (.int l2), some (.int l3), some (.int l4), none]) (st' := [.int (nI 2), .int s0, .ref s1]) bf207_36 bf207_37 rfl rfl).trans ?_
  exact bkV bf207_37 bf207_40 rfl (by decide +kernel) (Nat.le_of_ble_eq_true rfl) rfl (bhd rfl)
theorem bk207_28 {w : am_Wd} {l0 : Nat} {l1 : Int32} {l2 : Int32} {l3 : Int32} {l4 : Int32} {s0 : Int32} {s1 : Nat} : am_run 207 28 [some (.ref l0), some (.int l1), some (.int l2), some (.int l3), some (.int l4), none] [.int s0, .ref s1] w = if ¬ s0 = nI 0 then am_run 207 35 [some (.ref l0), some (.int l1), some (.int l2), some (.int l3), some (.int l4), none] [.ref s1] w else am_run 207 31 [some (.ref l0), some (.int l1), some (.int l2), some (.int l3), some (.int l4), none] [.ref s1] w := by
  exact bifc bf207_28 rfl bf207_35 bf207_31 rfl rfl rfl
theorem bk207_40 {w : am_Wd} {l0 : Nat} {l1 : Int32} {l2 : Int32} {l3 : Int32} {l4 : Int32} {s0 : Int32} : am_run 207 40 [some (.ref l0), some (.int l1), some (.int l2), some (.int l3), some (.int l4), none] [.int s0] w = if ¬ s0 = nI 0 then am_run 207 67 [none, none, none, none, none, none] [] w else am_run 207 43 [some (.ref l0), some (.int l1), some (.int l2), some (.int l3), some (.int l4), none] [] w := by
  exact bifc bf207_40 rfl bf207_67 bf207_43 rfl rfl rfl
theorem bk207_35 {w : am_Wd} {l0 : Nat} {l1 : Int32} {l2 : Int32} {l3 : Int32} {l4 : Int32} {s0 : Nat} : am_run 207 35 [some (.ref l0), some (.int l1), some (.int l2), some (.int l3), some (.int l4), none] [.ref s0] w = am_run 207 36 [some (.ref l0), some (.int l1), some (.int l2), some (.int l3), some (.int l4), none] [.int (nI 0), .ref s0] w := by
  refine (bu (ls'' := [some (.ref l0), some (.int l1), some (.int l2), some (.int l3), some (.int l4), none]) (st' := [.int (nI 0), .ref s0]) bf207_35 bf207_36 rfl rfl).trans ?_
  rfl
theorem bk207_43 {w : am_Wd} {l0 : Nat} {l1 : Int32} {l2 : Int32} {l3 : Int32} {l4 : Int32} : am_run 207 43 [some (.ref l0), some (.int l1), some (.int l2), some (.int l3), some (.int l4), none] [] w = (am_gf w l0 11 11).bind fun v => am_run 207 48 [some (.ref l0), some (.int l1), some (.int l2), some (.int l3), some (.int l4), none] (v :: [.ref l0]) w := by
  refine (bu (ls'' := [some (.ref l0), some (.int l1), some (.int l2), some (.int l3), some (.int l4), none]) (st' := [.ref l0]) bf207_43 bf207_44 rfl rfl).trans ?_
  refine (bu (ls'' := [some (.ref l0), some (.int l1), some (.int l2), some (.int l3), some (.int l4), none]) (st' := [.ref l0, .ref l0]) bf207_44 bf207_45 rfl rfl).trans ?_
  exact bh bf207_45 bf207_48 rfl (fun _ _ => am_ge_rf w) rfl
theorem bk207_48 {w : am_Wd} {l0 : Nat} {l1 : Int32} {l2 : Int32} {l3 : Int32} {l4 : Int32} {s0 : Nat} {s1 : Nat} : am_run 207 48 [some (.ref l0), some (.int l1), some (.int l2), some (.int l3), some (.int l4), none] [.ref s0, .ref s1] w = (am_kf w s0 3).bind fun _ => (am_x 56 [.ref s0] w).bind fun r => bct r fun v w' => am_run 207 51 [some (.ref l0), some (.int l1), some (.int l2), some (.int l3), some (.int l4), none] (v.toList ++ [.ref s1]) w' := by
  exact bkV bf207_48 bf207_51 rfl (by decide +kernel) (Nat.le_of_ble_eq_true rfl) rfl (bhd rfl)
theorem bk207_51 {w : am_Wd} {l0 : Nat} {l1 : Int32} {l2 : Int32} {l3 : Int32} {l4 : Int32} {s0 : Int32} {s1 : Nat} : am_run 207 51 [some (.ref l0), some (.int l1), some (.int l2), some (.int l3), some (.int l4), none] [.int s0, .ref s1] w = if ¬ s0 = (nI 3) then am_run 207 59 [some (.ref l0), some (.int l1), some (.int l2), some (.int l3), some (.int l4), none] [.ref s1] w else am_run 207 55 [some (.ref l0), some (.int l1), some (.int l2), some (.int l3), some (.int l4), none] [.ref s1] w := by
  refine (bu (ls'' := [some (.ref l0), some (.int l1), some (.int l2), some (.int l3), some (.int l4), none]) (st' := [.int (nI 3), .int s0, .ref s1]) bf207_51 bf207_52 rfl rfl).trans ?_
  exact bic bf207_52 rfl bf207_59 bf207_55 rfl rfl rfl
theorem bk207_59 {w : am_Wd} {l0 : Nat} {l1 : Int32} {l2 : Int32} {l3 : Int32} {l4 : Int32} {s0 : Nat} : am_run 207 59 [some (.ref l0), some (.int l1), some (.int l2), some (.int l3), some (.int l4), none] [.ref s0] w = am_run 207 60 [some (.ref l0), some (.int l1), some (.int l2), some (.int l3), some (.int l4), none] [.int (nI 0), .ref s0] w := by
  refine (bu (ls'' := [some (.ref l0), some (.int l1), some (.int l2), some (.int l3), some (.int l4), none]) (st' := [.int (nI 0), .ref s0]) bf207_59 bf207_60 rfl rfl).trans ?_
  rfl
theorem bk207_55 {w : am_Wd} {l0 : Nat} {l1 : Int32} {l2 : Int32} {l3 : Int32} {l4 : Int32} {s0 : Nat} : am_run 207 55 [some (.ref l0), some (.int l1), some (.int l2), some (.int l3), some (.int l4), none] [.ref s0] w = am_run 207 60 [some (.ref l0), some (.int l1), some (.int l2), some (.int l3), some (.int l4), none] [.int (nI 1), .ref s0] w := by
  refine (bu (ls'' := [some (.ref l0), some (.int l1), some (.int l2), some (.int l3), some (.int l4), none]) (st' := [.int (nI 1), .ref s0]) bf207_55 bf207_56 rfl rfl).trans ?_
  refine (bu (ls'' := [some (.ref l0), some (.int l1), some (.int l2), some (.int l3), some (.int l4), none]) (st' := [.int (nI 1), .ref s0]) bf207_56 bf207_60 rfl rfl).trans ?_
  rfl
theorem bk207_60 {w : am_Wd} {l0 : Nat} {l1 : Int32} {l2 : Int32} {l3 : Int32} {l4 : Int32} {s0 : Int32} {s1 : Nat} : am_run 207 60 [some (.ref l0), some (.int l1), some (.int l2), some (.int l3), some (.int l4), none] [.int s0, .ref s1] w = (am_kf w s1 11).bind fun _ => (am_x 40 [.ref s1, .int s0, .int (nI 3)] w).bind fun r => bct r fun v w' => am_run 207 64 [some (.ref l0), some (.int l1), some (.int l2), some (.int l3), some (.int l4), none] (v.toList ++ []) w' := by
  refine (bu (ls'' := [some (.ref l0), some (.int l1), some (.int l2), some (.int l3), some (.int l4), none]) (st' := [.int (nI 3), .int s0, .ref s1]) bf207_60 bf207_61 rfl rfl).trans ?_
  exact bkV bf207_61 bf207_64 rfl (by decide +kernel) (Nat.le_of_ble_eq_true rfl) rfl (bhd rfl)
theorem bk207_64 {w : am_Wd} {l0 : Nat} {l1 : Int32} {l2 : Int32} {l3 : Int32} {l4 : Int32} {s0 : Int32} : am_run 207 64 [some (.ref l0), some (.int l1), some (.int l2), some (.int l3), some (.int l4), none] [.int s0] w = if s0 = nI 0 then am_run 207 69 [some (.ref l0), some (.int l1), some (.int l2), some (.int l3), some (.int l4), none] [] w else am_run 207 67 [none, none, none, none, none, none] [] w := by
  exact bifc bf207_64 rfl bf207_69 bf207_67 rfl rfl rfl
theorem bk207_69 {w : am_Wd} {l0 : Nat} {l1 : Int32} {l2 : Int32} {l3 : Int32} {l4 : Int32} : am_run 207 69 [some (.ref l0), some (.int l1), some (.int l2), some (.int l3), some (.int l4), none] [] w = am_run 207 72 [some (.ref l0), some (.int l1), some (.int l2), some (.int l3), some (.int l4), none] (.ref w.2.1 :: []) (am_nw w (.inr (10, am_df 10 9)) 9) := by
  exact bn bf207_69 bf207_72 rfl rfl (am_ge_nw _ _ _)
theorem bk207_72 {w : am_Wd} {l0 : Nat} {l1 : Int32} {l2 : Int32} {l3 : Int32} {l4 : Int32} {s0 : Nat} : am_run 207 72 [some (.ref l0), some (.int l1), some (.int l2), some (.int l3), some (.int l4), none] [.ref s0] w = (am_x 36 [.ref s0] w).bind fun r => bct r fun v w' => am_run 207 76 [some (.ref l0), some (.int l1), some (.int l2), some (.int l3), some (.int l4), none] (v.toList ++ [.ref s0]) w' := by
  refine (bu (ls'' := [some (.ref l0), some (.int l1), some (.int l2), some (.int l3), some (.int l4), none]) (st' := [.ref s0, .ref s0]) bf207_72 bf207_73 rfl rfl).trans ?_
  exact bkS bf207_73 bf207_76 rfl (by decide +kernel) (Nat.le_of_ble_eq_true rfl) rfl (bhd rfl)
theorem bk207_76 {w : am_Wd} {l0 : Nat} {l1 : Int32} {l2 : Int32} {l3 : Int32} {l4 : Int32} {s0 : Nat} : am_run 207 76 [some (.ref l0), some (.int l1), some (.int l2), some (.int l3), some (.int l4), none] [.ref s0] w = (am_pf w s0 10 0 (.int (((nI 4) * l1) + l2))).bind fun w' => am_run 207 88 [some (.ref l0), some (.int l1), none, some (.int l3), some (.int l4), some (.ref s0)] [] w' := by
  refine (bu (ls'' := [some (.ref l0), some (.int l1), some (.int l2), some (.int l3), some (.int l4), some (.ref s0)]) (st' := []) bf207_76 bf207_78 rfl rfl).trans ?_
  refine (bu (ls'' := [some (.ref l0), some (.int l1), some (.int l2), some (.int l3), some (.int l4), some (.ref s0)]) (st' := [.ref s0]) bf207_78 bf207_80 rfl rfl).trans ?_
  refine (bu (ls'' := [some (.ref l0), some (.int l1), some (.int l2), some (.int l3), some (.int l4), some (.ref s0)]) (st' := [.int (nI 4), .ref s0]) bf207_80 bf207_81 rfl rfl).trans ?_
  refine (bu (ls'' := [some (.ref l0), some (.int l1), some (.int l2), some (.int l3), some (.int l4), some (.ref s0)]) (st' := [.int l1, .int (nI 4), .ref s0]) bf207_81 bf207_82 rfl rfl).trans ?_
  refine (bu (ls'' := [some (.ref l0), some (.int l1), some (.int l2), some (.int l3), some (.int l4), some (.ref s0)]) (st' := [.int ((nI 4) * l1), .ref s0]) bf207_82 bf207_83 rfl rfl).trans ?_
  refine (bu (ls'' := [some (.ref l0), some (.int l1), none, some (.int l3), some (.int l4), some (.ref s0)]) (st' := [.int l2, .int ((nI 4) * l1), .ref s0]) bf207_83 bf207_84 rfl rfl).trans ?_
  refine (bu (ls'' := [some (.ref l0), some (.int l1), none, some (.int l3), some (.int l4), some (.ref s0)]) (st' := [.int (((nI 4) * l1) + l2), .ref s0]) bf207_84 bf207_85 rfl rfl).trans ?_
  exact bh bf207_85 bf207_88 rfl (bge_pf) rfl
theorem bk207_88 {w : am_Wd} {l0 : Nat} {l1 : Int32} {l3 : Int32} {l4 : Int32} {l5 : Nat} : am_run 207 88 [some (.ref l0), some (.int l1), none, some (.int l3), some (.int l4), some (.ref l5)] [] w = (am_pf w l5 10 1 (.int l1)).bind fun w' => am_run 207 94 [some (.ref l0), none, none, some (.int l3), some (.int l4), some (.ref l5)] [] w' := by
  refine (bu (ls'' := [some (.ref l0), some (.int l1), none, some (.int l3), some (.int l4), some (.ref l5)]) (st' := [.ref l5]) bf207_88 bf207_90 rfl rfl).trans ?_
  refine (bu (ls'' := [some (.ref l0), none, none, some (.int l3), some (.int l4), some (.ref l5)]) (st' := [.int l1, .ref l5]) bf207_90 bf207_91 rfl rfl).trans ?_
  exact bh bf207_91 bf207_94 rfl (bge_pf) rfl
theorem bk207_94 {w : am_Wd} {l0 : Nat} {l3 : Int32} {l4 : Int32} {l5 : Nat} : am_run 207 94 [some (.ref l0), none, none, some (.int l3), some (.int l4), some (.ref l5)] [] w = (am_pf w l5 10 2 (.int l3)).bind fun w' => am_run 207 100 [some (.ref l0), none, none, none, some (.int l4), some (.ref l5)] [] w' := by
  refine (bu (ls'' := [some (.ref l0), none, none, some (.int l3), some (.int l4), some (.ref l5)]) (st' := [.ref l5]) bf207_94 bf207_96 rfl rfl).trans ?_
  refine (bu (ls'' := [some (.ref l0), none, none, none, some (.int l4), some (.ref l5)]) (st' := [.int l3, .ref l5]) bf207_96 bf207_97 rfl rfl).trans ?_
  exact bh bf207_97 bf207_100 rfl (bge_pf) rfl
theorem bk207_100 {w : am_Wd} {l0 : Nat} {l4 : Int32} {l5 : Nat} : am_run 207 100 [some (.ref l0), none, none, none, some (.int l4), some (.ref l5)] [] w = if l4 = nI 0 then am_run 207 120 [some (.ref l0), none, none, none, none, some (.ref l5)] [] w else am_run 207 105 [some (.ref l0), none, none, none, none, some (.ref l5)] [] w := by
  refine (bu (ls'' := [some (.ref l0), none, none, none, none, some (.ref l5)]) (st' := [.int l4]) bf207_100 bf207_102 rfl rfl).trans ?_
  exact bifc bf207_102 rfl bf207_120 bf207_105 rfl rfl rfl
theorem bk207_120 {w : am_Wd} {l0 : Nat} {l5 : Nat} : am_run 207 120 [some (.ref l0), none, none, none, none, some (.ref l5)] [] w = (am_x 45 [.ref l5] w).bind fun r => bct r fun v w' => am_run 207 125 [some (.ref l0), none, none, none, none, some (.ref l5)] (v.toList ++ []) w' := by
  refine (bu (ls'' := [some (.ref l0), none, none, none, none, some (.ref l5)]) (st' := [.ref l5]) bf207_120 bf207_122 rfl rfl).trans ?_
  exact bkS bf207_122 bf207_125 rfl (by decide +kernel) (Nat.le_of_ble_eq_true rfl) rfl (bhd rfl)
theorem bk207_105 {w : am_Wd} {l0 : Nat} {l5 : Nat} : am_run 207 105 [some (.ref l0), none, none, none, none, some (.ref l5)] [] w = (am_gf w l5 10 3).bind fun v => am_run 207 110 [some (.ref l0), none, none, none, none, some (.ref l5)] (v :: []) w := by
  refine (bu (ls'' := [some (.ref l0), none, none, none, none, some (.ref l5)]) (st' := [.ref l5]) bf207_105 bf207_107 rfl rfl).trans ?_
  exact bh bf207_107 bf207_110 rfl (fun _ _ => am_ge_rf w) rfl
theorem bk207_125 {w : am_Wd} {l0 : Nat} {l5 : Nat} : am_run 207 125 [some (.ref l0), none, none, none, none, some (.ref l5)] [] w = (am_gf w l0 11 11).bind fun v => am_run 207 129 [some (.ref l0), none, none, none, none, some (.ref l5)] (v :: []) w := by
  refine (bu (ls'' := [some (.ref l0), none, none, none, none, some (.ref l5)]) (st' := [.ref l0]) bf207_125 bf207_126 rfl rfl).trans ?_
  exact bh bf207_126 bf207_129 rfl (fun _ _ => am_ge_rf w) rfl
theorem bk207_110 {w : am_Wd} {l0 : Nat} {l5 : Nat} {s0 : Nat} : am_run 207 110 [some (.ref l0), none, none, none, none, some (.ref l5)] [.ref s0] w = (am_gf w l5 10 0).bind fun v => am_run 207 115 [some (.ref l0), none, none, none, none, some (.ref l5)] (v :: [.ref s0]) w := by
  refine (bu (ls'' := [some (.ref l0), none, none, none, none, some (.ref l5)]) (st' := [.ref l5, .ref s0]) bf207_110 bf207_112 rfl rfl).trans ?_
  exact bh bf207_112 bf207_115 rfl (fun _ _ => am_ge_rf w) rfl
theorem bk207_129 {w : am_Wd} {l0 : Nat} {l5 : Nat} {s0 : Nat} : am_run 207 129 [some (.ref l0), none, none, none, none, some (.ref l5)] [.ref s0] w = (am_kf w s0 3).bind fun _ => (am_x 195 [.ref s0, .ref l5] w).bind fun r => bct r fun v w' => am_run 207 134 [some (.ref l0), none, none, none, none, none] (v.toList ++ []) w' := by
  refine (bu (ls'' := [some (.ref l0), none, none, none, none, none]) (st' := [.ref l5, .ref s0]) bf207_129 bf207_131 rfl rfl).trans ?_
  exact bkV bf207_131 bf207_134 rfl (by decide +kernel) (Nat.le_of_ble_eq_true rfl) rfl (bhd rfl)
theorem bk207_115 {w : am_Wd} {l0 : Nat} {l5 : Nat} {s0 : Int32} {s1 : Nat} : am_run 207 115 [some (.ref l0), none, none, none, none, some (.ref l5)] [.int s0, .ref s1] w = (am_wi 2 w s1 s0 (vp_nar .boolean (nI 1))).bind fun w' => am_run 207 117 [some (.ref l0), none, none, none, none, some (.ref l5)] [] w' := by
  refine (bu (ls'' := [some (.ref l0), none, none, none, none, some (.ref l5)]) (st' := [.int (nI 1), .int s0, .ref s1]) bf207_115 bf207_116 rfl rfl).trans ?_
  exact bh bf207_116 bf207_117 rfl (bge_wi) rfl
theorem bk207_134 {w : am_Wd} {l0 : Nat} {s0 : Int32} : am_run 207 134 [some (.ref l0), none, none, none, none, none] [.int s0] w = (am_gf w l0 11 11).bind fun v => am_run 207 139 [none, none, none, none, none, none] (v :: []) w := by
  refine (bu (ls'' := [some (.ref l0), none, none, none, none, none]) (st' := []) bf207_134 bf207_135 rfl rfl).trans ?_
  refine (bu (ls'' := [none, none, none, none, none, none]) (st' := [.ref l0]) bf207_135 bf207_136 rfl rfl).trans ?_
  exact bh bf207_136 bf207_139 rfl (fun _ _ => am_ge_rf w) rfl
theorem bk207_117 {w : am_Wd} {l0 : Nat} {l5 : Nat} : am_run 207 117 [some (.ref l0), none, none, none, none, some (.ref l5)] [] w = am_run 207 125 [some (.ref l0), none, none, none, none, some (.ref l5)] [] w := by
  refine (bu (ls'' := [some (.ref l0), none, none, none, none, some (.ref l5)]) (st' := []) bf207_117 bf207_125 rfl rfl).trans ?_
  rfl
theorem bk207_139 {w : am_Wd} {s0 : Nat} : am_run 207 139 [none, none, none, none, none, none] [.ref s0] w = (am_kf w s0 3).bind fun _ => (am_x 56 [.ref s0] w).bind fun r => bct r fun v w' => am_run 207 142 [none, none, none, none, none, none] (v.toList ++ []) w' := by
  exact bkV bf207_139 bf207_142 rfl (by decide +kernel) (Nat.le_of_ble_eq_true rfl) rfl (bhd rfl)
theorem bk207_142 {w : am_Wd} {s0 : Int32} : am_run 207 142 [none, none, none, none, none, none] [.int s0] w = some (.inl (some (.int (s0 - (nI 1)))), w) := by
  refine (bu (ls'' := [none, none, none, none, none, none]) (st' := [.int (nI 1), .int s0]) bf207_142 bf207_143 rfl rfl).trans ?_
  refine (bu (ls'' := [none, none, none, none, none, none]) (st' := [.int (s0 - (nI 1))]) bf207_143 bf207_144 rfl rfl).trans ?_
  exact am_e2 bf207_144 rfl (am_ge_rf w)
theorem bf208_0 : am_fetch (am_mth 208) 0 = some (.bipush 36, 2, [], [0, 3, 4, 5, 6]) := by decide +kernel
theorem bf208_2 : am_fetch (am_mth 208) 2 = some (.newarray .int, 2, [0, 108], [0, 3, 4, 5, 6]) := by decide +kernel
theorem bf208_4 : am_fetch (am_mth 208) 4 = some (.astore_n 3, 1, [], [0, 3, 4, 5, 6]) := by decide +kernel
theorem bf208_5 : am_fetch (am_mth 208) 5 = some (.iconst 0, 1, [], [0, 4, 5, 6]) := by decide +kernel
theorem bf208_6 : am_fetch (am_mth 208) 6 = some (.istore 4, 2, [], [0, 4, 5, 6]) := by decide +kernel
theorem bf208_8 : am_fetch (am_mth 208) 8 = some (.iload 4, 2, [], [0, 5, 6]) := by decide +kernel
theorem bf208_10 : am_fetch (am_mth 208) 10 = some (.bipush 36, 2, [], [0, 5, 6]) := by decide +kernel
theorem bf208_12 : am_fetch (am_mth 208) 12 = some (.if_icmp .ge 24, 3, [], [0, 5, 6]) := by decide +kernel
theorem bf208_15 : am_fetch (am_mth 208) 15 = some (.aload_n 3, 1, [], [0, 5, 6]) := by decide +kernel
theorem bf208_16 : am_fetch (am_mth 208) 16 = some (.iload 4, 2, [], [0, 5, 6]) := by decide +kernel
theorem bf208_18 : am_fetch (am_mth 208) 18 = some (.iload 4, 2, [], [0, 5, 6]) := by decide +kernel
theorem bf208_20 : am_fetch (am_mth 208) 20 = some (.iload_n 2, 1, [], [0, 5, 6]) := by decide +kernel
theorem bf208_21 : am_fetch (am_mth 208) 21 = some (.if_icmp .ne 7, 3, [], [0, 5, 6]) := by decide +kernel
theorem bf208_24 : am_fetch (am_mth 208) 24 = some (.iconst 0, 1, [], [0, 5, 6]) := by decide +kernel
theorem bf208_25 : am_fetch (am_mth 208) 25 = some (.goto 4, 3, [], [0, 5, 6]) := by decide +kernel
theorem bf208_28 : am_fetch (am_mth 208) 28 = some (.iconst (-1), 1, [], [0, 5, 6]) := by decide +kernel
theorem bf208_29 : am_fetch (am_mth 208) 29 = some (.iastore, 1, [], [0, 5, 6]) := by decide +kernel
theorem bf208_30 : am_fetch (am_mth 208) 30 = some (.iinc 4 1, 3, [], [0, 5, 6]) := by decide +kernel
theorem bf208_33 : am_fetch (am_mth 208) 33 = some (.goto (-25), 3, [], [0, 5, 6]) := by decide +kernel
theorem bf208_36 : am_fetch (am_mth 208) 36 = some (.iconst 0, 1, [], [0, 2, 4, 5, 6]) := by decide +kernel
theorem bf208_37 : am_fetch (am_mth 208) 37 = some (.istore 4, 2, [], [0, 2, 4, 5, 6]) := by decide +kernel
theorem bf208_39 : am_fetch (am_mth 208) 39 = some (.iload 4, 2, [], [0, 2, 5, 6]) := by decide +kernel
theorem bf208_41 : am_fetch (am_mth 208) 41 = some (.bipush 36, 2, [], [0, 2, 5, 6]) := by decide +kernel
theorem bf208_43 : am_fetch (am_mth 208) 43 = some (.if_icmp .ge 87, 3, [], [0, 2, 5, 6]) := by decide +kernel
theorem bf208_46 : am_fetch (am_mth 208) 46 = some (.iconst 0, 1, [], [0, 2, 5, 6]) := by decide +kernel
theorem bf208_47 : am_fetch (am_mth 208) 47 = some (.istore 5, 2, [], [0, 2, 5, 6]) := by decide +kernel
theorem bf208_49 : am_fetch (am_mth 208) 49 = some (.iload 5, 2, [], [0, 2, 6]) := by decide +kernel
theorem bf208_51 : am_fetch (am_mth 208) 51 = some (.bipush 36, 2, [], [0, 2, 6]) := by decide +kernel
theorem bf208_53 : am_fetch (am_mth 208) 53 = some (.if_icmp .ge 71, 3, [], [0, 2, 6]) := by decide +kernel
theorem bf208_56 : am_fetch (am_mth 208) 56 = some (.iconst 0, 1, [], [0, 2, 6]) := by decide +kernel
theorem bf208_57 : am_fetch (am_mth 208) 57 = some (.istore 6, 2, [], [0, 2, 6]) := by decide +kernel
theorem bf208_59 : am_fetch (am_mth 208) 59 = some (.iload 6, 2, [], [0, 2]) := by decide +kernel
theorem bf208_61 : am_fetch (am_mth 208) 61 = some (.iconst 4, 1, [], [0, 2]) := by decide +kernel
theorem bf208_62 : am_fetch (am_mth 208) 62 = some (.if_icmp .ge 56, 3, [], [0, 2]) := by decide +kernel
theorem bf208_65 : am_fetch (am_mth 208) 65 = some (.aload_n 3, 1, [], [0, 2]) := by decide +kernel
theorem bf208_66 : am_fetch (am_mth 208) 66 = some (.iload 5, 2, [], [0, 2]) := by decide +kernel
theorem bf208_68 : am_fetch (am_mth 208) 68 = some (.iaload, 1, [], [0, 2]) := by decide +kernel
theorem bf208_69 : am_fetch (am_mth 208) 69 = some (.iload 4, 2, [], [0, 2]) := by decide +kernel
theorem bf208_71 : am_fetch (am_mth 208) 71 = some (.if_icmp .ne 47, 3, [], [0, 2]) := by decide +kernel
theorem bf208_74 : am_fetch (am_mth 208) 74 = some (.aload_n 1, 1, [], [0, 2]) := by decide +kernel
theorem bf208_75 : am_fetch (am_mth 208) 75 = some (.iload 5, 2, [], [0, 2]) := by decide +kernel
theorem bf208_77 : am_fetch (am_mth 208) 77 = some (.iload 6, 2, [], [0, 2]) := by decide +kernel
theorem bf208_79 : am_fetch (am_mth 208) 79 = some (.invokestatic 118, 3, [0, 174, 3, 1431, 1432, 48], [0, 2]) := by decide +kernel
theorem bf208_82 : am_fetch (am_mth 208) 82 = some (.iconst 1, 1, [], [0, 2]) := by decide +kernel
theorem bf208_83 : am_fetch (am_mth 208) 83 = some (.if_icmp .ne 29, 3, [], [0, 2]) := by decide +kernel
theorem bf208_86 : am_fetch (am_mth 208) 86 = some (.aload_n 3, 1, [], [0, 2]) := by decide +kernel
theorem bf208_87 : am_fetch (am_mth 208) 87 = some (.iload 5, 2, [], [0, 2]) := by decide +kernel
theorem bf208_89 : am_fetch (am_mth 208) 89 = some (.iload 6, 2, [], [0, 2]) := by decide +kernel
theorem bf208_91 : am_fetch (am_mth 208) 91 = some (.invokestatic 50, 3, [0, 100, 2, 1259, 1260, 48], [0, 2]) := by decide +kernel
theorem bf208_94 : am_fetch (am_mth 208) 94 = some (.iaload, 1, [], [0, 2]) := by decide +kernel
theorem bf208_95 : am_fetch (am_mth 208) 95 = some (.iconst (-1), 1, [], [0, 2]) := by decide +kernel
theorem bf208_96 : am_fetch (am_mth 208) 96 = some (.if_icmp .ne 16, 3, [], [0, 2]) := by decide +kernel
theorem bf208_99 : am_fetch (am_mth 208) 99 = some (.aload_n 3, 1, [], [0, 2]) := by decide +kernel
theorem bf208_100 : am_fetch (am_mth 208) 100 = some (.iload 5, 2, [], [0, 2]) := by decide +kernel
theorem bf208_102 : am_fetch (am_mth 208) 102 = some (.iload 6, 2, [], [0, 2]) := by decide +kernel
theorem bf208_104 : am_fetch (am_mth 208) 104 = some (.invokestatic 50, 3, [0, 100, 2, 1259, 1260, 48], [0, 2]) := by decide +kernel
theorem bf208_107 : am_fetch (am_mth 208) 107 = some (.iload 4, 2, [], [0, 2]) := by decide +kernel
theorem bf208_109 : am_fetch (am_mth 208) 109 = some (.iconst 1, 1, [], [0, 2]) := by decide +kernel
theorem bf208_110 : am_fetch (am_mth 208) 110 = some (.iadd, 1, [], [0, 2]) := by decide +kernel
theorem bf208_111 : am_fetch (am_mth 208) 111 = some (.iastore, 1, [], [0, 2]) := by decide +kernel
theorem bf208_112 : am_fetch (am_mth 208) 112 = some (.iinc 6 1, 3, [], [0, 2]) := by decide +kernel
theorem bf208_115 : am_fetch (am_mth 208) 115 = some (.goto (-56), 3, [], [0, 2]) := by decide +kernel
theorem bf208_118 : am_fetch (am_mth 208) 118 = some (.iinc 5 1, 3, [], [0, 2, 6]) := by decide +kernel
theorem bf208_121 : am_fetch (am_mth 208) 121 = some (.goto (-72), 3, [], [0, 2, 6]) := by decide +kernel
theorem bf208_124 : am_fetch (am_mth 208) 124 = some (.iinc 4 1, 3, [], [0, 2, 5, 6]) := by decide +kernel
theorem bf208_127 : am_fetch (am_mth 208) 127 = some (.goto (-88), 3, [], [0, 2, 5, 6]) := by decide +kernel
theorem bf208_130 : am_fetch (am_mth 208) 130 = some (.aload_n 3, 1, [], [0, 1, 2, 4, 5, 6]) := by decide +kernel
theorem bf208_131 : am_fetch (am_mth 208) 131 = some (.areturn, 1, [], [0, 1, 2, 3, 4, 5, 6]) := by decide +kernel
theorem bk208_0 {w : am_Wd} {l1 : Nat} {l2 : Int32} : am_run 208 0 [none, some (.ref l1), some (.int l2), none, none, none, none] [] w = (am_na w 0 (nI 36)).bind fun w' => am_run 208 4 [none, some (.ref l1), some (.int l2), none, none, none, none] (.ref w.2.1 :: []) w' := by
  refine (bu (ls'' := [none, some (.ref l1), some (.int l2), none, none, none, none]) (st' := [.int (nI 36)]) bf208_0 bf208_2 rfl rfl).trans ?_
  exact bh bf208_2 bf208_4 rfl (bge_na) rfl
theorem bk208_4 {w : am_Wd} {l1 : Nat} {l2 : Int32} {s0 : Nat} : am_run 208 4 [none, some (.ref l1), some (.int l2), none, none, none, none] [.ref s0] w = am_run 208 8 [none, some (.ref l1), some (.int l2), some (.ref s0), some (.int (nI 0)), none, none] [] w := by
  refine (bu (ls'' := [none, some (.ref l1), some (.int l2), some (.ref s0), none, none, none]) (st' := []) bf208_4 bf208_5 rfl rfl).trans ?_
  refine (bu (ls'' := [none, some (.ref l1), some (.int l2), some (.ref s0), none, none, none]) (st' := [.int (nI 0)]) bf208_5 bf208_6 rfl rfl).trans ?_
  refine (bu (ls'' := [none, some (.ref l1), some (.int l2), some (.ref s0), some (.int (nI 0)), none, none]) (st' := []) bf208_6 bf208_8 rfl rfl).trans ?_
  rfl
theorem bk208_8 {w : am_Wd} {l1 : Nat} {l2 : Int32} {l3 : Nat} {l4 : Int32} : am_run 208 8 [none, some (.ref l1), some (.int l2), some (.ref l3), some (.int l4), none, none] [] w = if (nI 36) ≤ l4 then am_run 208 36 [none, some (.ref l1), none, some (.ref l3), none, none, none] [] w else am_run 208 15 [none, some (.ref l1), some (.int l2), some (.ref l3), some (.int l4), none, none] [] w := by
  refine (bu (ls'' := [none, some (.ref l1), some (.int l2), some (.ref l3), some (.int l4), none, none]) (st' := [.int l4]) bf208_8 bf208_10 rfl rfl).trans ?_
  refine (bu (ls'' := [none, some (.ref l1), some (.int l2), some (.ref l3), some (.int l4), none, none]) (st' := [.int (nI 36), .int l4]) bf208_10 bf208_12 rfl rfl).trans ?_
  exact bic bf208_12 rfl bf208_36 bf208_15 rfl rfl rfl
theorem bk208_36 {w : am_Wd} {l1 : Nat} {l3 : Nat} : am_run 208 36 [none, some (.ref l1), none, some (.ref l3), none, none, none] [] w = am_run 208 39 [none, some (.ref l1), none, some (.ref l3), some (.int (nI 0)), none, none] [] w := by
  refine (bu (ls'' := [none, some (.ref l1), none, some (.ref l3), none, none, none]) (st' := [.int (nI 0)]) bf208_36 bf208_37 rfl rfl).trans ?_
  refine (bu (ls'' := [none, some (.ref l1), none, some (.ref l3), some (.int (nI 0)), none, none]) (st' := []) bf208_37 bf208_39 rfl rfl).trans ?_
  rfl
theorem bk208_15 {w : am_Wd} {l1 : Nat} {l2 : Int32} {l3 : Nat} {l4 : Int32} : am_run 208 15 [none, some (.ref l1), some (.int l2), some (.ref l3), some (.int l4), none, none] [] w = if ¬ l4 = l2 then am_run 208 28 [none, some (.ref l1), some (.int l2), some (.ref l3), some (.int l4), none, none] [.int l4, .ref l3] w else am_run 208 24 [none, some (.ref l1), some (.int l2), some (.ref l3), some (.int l4), none, none] [.int l4, .ref l3] w := by
  refine (bu (ls'' := [none, some (.ref l1), some (.int l2), some (.ref l3), some (.int l4), none, none]) (st' := [.ref l3]) bf208_15 bf208_16 rfl rfl).trans ?_
  refine (bu (ls'' := [none, some (.ref l1), some (.int l2), some (.ref l3), some (.int l4), none, none]) (st' := [.int l4, .ref l3]) bf208_16 bf208_18 rfl rfl).trans ?_
  refine (bu (ls'' := [none, some (.ref l1), some (.int l2), some (.ref l3), some (.int l4), none, none]) (st' := [.int l4, .int l4, .ref l3]) bf208_18 bf208_20 rfl rfl).trans ?_
  refine (bu (ls'' := [none, some (.ref l1), some (.int l2), some (.ref l3), some (.int l4), none, none]) (st' := [.int l2, .int l4, .int l4, .ref l3]) bf208_20 bf208_21 rfl rfl).trans ?_
  exact bic bf208_21 rfl bf208_28 bf208_24 rfl rfl rfl
theorem bk208_39 {w : am_Wd} {l1 : Nat} {l3 : Nat} {l4 : Int32} : am_run 208 39 [none, some (.ref l1), none, some (.ref l3), some (.int l4), none, none] [] w = if (nI 36) ≤ l4 then am_run 208 130 [none, none, none, some (.ref l3), none, none, none] [] w else am_run 208 46 [none, some (.ref l1), none, some (.ref l3), some (.int l4), none, none] [] w := by
  refine (bu (ls'' := [none, some (.ref l1), none, some (.ref l3), some (.int l4), none, none]) (st' := [.int l4]) bf208_39 bf208_41 rfl rfl).trans ?_
  refine (bu (ls'' := [none, some (.ref l1), none, some (.ref l3), some (.int l4), none, none]) (st' := [.int (nI 36), .int l4]) bf208_41 bf208_43 rfl rfl).trans ?_
  exact bic bf208_43 rfl bf208_130 bf208_46 rfl rfl rfl
theorem bk208_28 {w : am_Wd} {l1 : Nat} {l2 : Int32} {l3 : Nat} {l4 : Int32} {s0 : Int32} {s1 : Nat} : am_run 208 28 [none, some (.ref l1), some (.int l2), some (.ref l3), some (.int l4), none, none] [.int s0, .ref s1] w = am_run 208 29 [none, some (.ref l1), some (.int l2), some (.ref l3), some (.int l4), none, none] [.int (-1 : Int32), .int s0, .ref s1] w := by
  refine (bu (ls'' := [none, some (.ref l1), some (.int l2), some (.ref l3), some (.int l4), none, none]) (st' := [.int (-1 : Int32), .int s0, .ref s1]) bf208_28 bf208_29 rfl rfl).trans ?_
  rfl
theorem bk208_24 {w : am_Wd} {l1 : Nat} {l2 : Int32} {l3 : Nat} {l4 : Int32} {s0 : Int32} {s1 : Nat} : am_run 208 24 [none, some (.ref l1), some (.int l2), some (.ref l3), some (.int l4), none, none] [.int s0, .ref s1] w = am_run 208 29 [none, some (.ref l1), some (.int l2), some (.ref l3), some (.int l4), none, none] [.int (nI 0), .int s0, .ref s1] w := by
  refine (bu (ls'' := [none, some (.ref l1), some (.int l2), some (.ref l3), some (.int l4), none, none]) (st' := [.int (nI 0), .int s0, .ref s1]) bf208_24 bf208_25 rfl rfl).trans ?_
  refine (bu (ls'' := [none, some (.ref l1), some (.int l2), some (.ref l3), some (.int l4), none, none]) (st' := [.int (nI 0), .int s0, .ref s1]) bf208_25 bf208_29 rfl rfl).trans ?_
  rfl
theorem bk208_130 {w : am_Wd} {l3 : Nat} : am_run 208 130 [none, none, none, some (.ref l3), none, none, none] [] w = some (.inl (some (.ref l3)), w) := by
  refine (bu (ls'' := [none, none, none, none, none, none, none]) (st' := [.ref l3]) bf208_130 bf208_131 rfl rfl).trans ?_
  exact am_e2 bf208_131 rfl (am_ge_rf w)
theorem bk208_46 {w : am_Wd} {l1 : Nat} {l3 : Nat} {l4 : Int32} : am_run 208 46 [none, some (.ref l1), none, some (.ref l3), some (.int l4), none, none] [] w = am_run 208 49 [none, some (.ref l1), none, some (.ref l3), some (.int l4), some (.int (nI 0)), none] [] w := by
  refine (bu (ls'' := [none, some (.ref l1), none, some (.ref l3), some (.int l4), none, none]) (st' := [.int (nI 0)]) bf208_46 bf208_47 rfl rfl).trans ?_
  refine (bu (ls'' := [none, some (.ref l1), none, some (.ref l3), some (.int l4), some (.int (nI 0)), none]) (st' := []) bf208_47 bf208_49 rfl rfl).trans ?_
  rfl
theorem bk208_29 {w : am_Wd} {l1 : Nat} {l2 : Int32} {l3 : Nat} {l4 : Int32} {s0 : Int32} {s1 : Int32} {s2 : Nat} : am_run 208 29 [none, some (.ref l1), some (.int l2), some (.ref l3), some (.int l4), none, none] [.int s0, .int s1, .ref s2] w = (am_wi 0 w s2 s1 s0).bind fun w' => am_run 208 30 [none, some (.ref l1), some (.int l2), some (.ref l3), some (.int l4), none, none] [] w' := by
  exact bh bf208_29 bf208_30 rfl (bge_wi) rfl
theorem bk208_49 {w : am_Wd} {l1 : Nat} {l3 : Nat} {l4 : Int32} {l5 : Int32} : am_run 208 49 [none, some (.ref l1), none, some (.ref l3), some (.int l4), some (.int l5), none] [] w = if (nI 36) ≤ l5 then am_run 208 124 [none, some (.ref l1), none, some (.ref l3), some (.int l4), none, none] [] w else am_run 208 56 [none, some (.ref l1), none, some (.ref l3), some (.int l4), some (.int l5), none] [] w := by
  refine (bu (ls'' := [none, some (.ref l1), none, some (.ref l3), some (.int l4), some (.int l5), none]) (st' := [.int l5]) bf208_49 bf208_51 rfl rfl).trans ?_
  refine (bu (ls'' := [none, some (.ref l1), none, some (.ref l3), some (.int l4), some (.int l5), none]) (st' := [.int (nI 36), .int l5]) bf208_51 bf208_53 rfl rfl).trans ?_
  exact bic bf208_53 rfl bf208_124 bf208_56 rfl rfl rfl
theorem bk208_30 {w : am_Wd} {l1 : Nat} {l2 : Int32} {l3 : Nat} {l4 : Int32} : am_run 208 30 [none, some (.ref l1), some (.int l2), some (.ref l3), some (.int l4), none, none] [] w = am_run 208 8 [none, some (.ref l1), some (.int l2), some (.ref l3), some (.int (l4 + (nI 1))), none, none] [] w := by
  refine (bu (ls'' := [none, some (.ref l1), some (.int l2), some (.ref l3), some (.int (l4 + (nI 1))), none, none]) (st' := []) bf208_30 bf208_33 rfl rfl).trans ?_
  refine (bu (ls'' := [none, some (.ref l1), some (.int l2), some (.ref l3), some (.int (l4 + (nI 1))), none, none]) (st' := []) bf208_33 bf208_8 rfl rfl).trans ?_
  rfl
theorem bk208_124 {w : am_Wd} {l1 : Nat} {l3 : Nat} {l4 : Int32} : am_run 208 124 [none, some (.ref l1), none, some (.ref l3), some (.int l4), none, none] [] w = am_run 208 39 [none, some (.ref l1), none, some (.ref l3), some (.int (l4 + (nI 1))), none, none] [] w := by
  refine (bu (ls'' := [none, some (.ref l1), none, some (.ref l3), some (.int (l4 + (nI 1))), none, none]) (st' := []) bf208_124 bf208_127 rfl rfl).trans ?_
  refine (bu (ls'' := [none, some (.ref l1), none, some (.ref l3), some (.int (l4 + (nI 1))), none, none]) (st' := []) bf208_127 bf208_39 rfl rfl).trans ?_
  rfl
theorem bk208_56 {w : am_Wd} {l1 : Nat} {l3 : Nat} {l4 : Int32} {l5 : Int32} : am_run 208 56 [none, some (.ref l1), none, some (.ref l3), some (.int l4), some (.int l5), none] [] w = am_run 208 59 [none, some (.ref l1), none, some (.ref l3), some (.int l4), some (.int l5), some (.int (nI 0))] [] w := by
  refine (bu (ls'' := [none, some (.ref l1), none, some (.ref l3), some (.int l4), some (.int l5), none]) (st' := [.int (nI 0)]) bf208_56 bf208_57 rfl rfl).trans ?_
  refine (bu (ls'' := [none, some (.ref l1), none, some (.ref l3), some (.int l4), some (.int l5), some (.int (nI 0))]) (st' := []) bf208_57 bf208_59 rfl rfl).trans ?_
  rfl
theorem bk208_59 {w : am_Wd} {l1 : Nat} {l3 : Nat} {l4 : Int32} {l5 : Int32} {l6 : Int32} : am_run 208 59 [none, some (.ref l1), none, some (.ref l3), some (.int l4), some (.int l5), some (.int l6)] [] w = if (nI 4) ≤ l6 then am_run 208 118 [none, some (.ref l1), none, some (.ref l3), some (.int l4), some (.int l5), none] [] w else am_run 208 65 [none, some (.ref l1), none, some (.ref l3), some (.int l4), some (.int l5), some (.int l6)] [] w := by
  refine (bu (ls'' := [none, some (.ref l1), none, some (.ref l3), some (.int l4), some (.int l5), some (.int l6)]) (st' := [.int l6]) bf208_59 bf208_61 rfl rfl).trans ?_
  refine (bu (ls'' := [none, some (.ref l1), none, some (.ref l3), some (.int l4), some (.int l5), some (.int l6)]) (st' := [.int (nI 4), .int l6]) bf208_61 bf208_62 rfl rfl).trans ?_
  exact bic bf208_62 rfl bf208_118 bf208_65 rfl rfl rfl
theorem bk208_118 {w : am_Wd} {l1 : Nat} {l3 : Nat} {l4 : Int32} {l5 : Int32} : am_run 208 118 [none, some (.ref l1), none, some (.ref l3), some (.int l4), some (.int l5), none] [] w = am_run 208 49 [none, some (.ref l1), none, some (.ref l3), some (.int l4), some (.int (l5 + (nI 1))), none] [] w := by
  refine (bu (ls'' := [none, some (.ref l1), none, some (.ref l3), some (.int l4), some (.int (l5 + (nI 1))), none]) (st' := []) bf208_118 bf208_121 rfl rfl).trans ?_
  refine (bu (ls'' := [none, some (.ref l1), none, some (.ref l3), some (.int l4), some (.int (l5 + (nI 1))), none]) (st' := []) bf208_121 bf208_49 rfl rfl).trans ?_
  rfl
theorem bk208_65 {w : am_Wd} {l1 : Nat} {l3 : Nat} {l4 : Int32} {l5 : Int32} {l6 : Int32} : am_run 208 65 [none, some (.ref l1), none, some (.ref l3), some (.int l4), some (.int l5), some (.int l6)] [] w = (am_ri 0 w l3 l5).bind fun v => am_run 208 69 [none, some (.ref l1), none, some (.ref l3), some (.int l4), some (.int l5), some (.int l6)] (.int v :: []) w := by
  refine (bu (ls'' := [none, some (.ref l1), none, some (.ref l3), some (.int l4), some (.int l5), some (.int l6)]) (st' := [.ref l3]) bf208_65 bf208_66 rfl rfl).trans ?_
  refine (bu (ls'' := [none, some (.ref l1), none, some (.ref l3), some (.int l4), some (.int l5), some (.int l6)]) (st' := [.int l5, .ref l3]) bf208_66 bf208_68 rfl rfl).trans ?_
  exact bh bf208_68 bf208_69 rfl (fun _ _ => am_ge_rf w) rfl
theorem bk208_69 {w : am_Wd} {l1 : Nat} {l3 : Nat} {l4 : Int32} {l5 : Int32} {l6 : Int32} {s0 : Int32} : am_run 208 69 [none, some (.ref l1), none, some (.ref l3), some (.int l4), some (.int l5), some (.int l6)] [.int s0] w = if ¬ s0 = l4 then am_run 208 118 [none, some (.ref l1), none, some (.ref l3), some (.int l4), some (.int l5), none] [] w else am_run 208 74 [none, some (.ref l1), none, some (.ref l3), some (.int l4), some (.int l5), some (.int l6)] [] w := by
  refine (bu (ls'' := [none, some (.ref l1), none, some (.ref l3), some (.int l4), some (.int l5), some (.int l6)]) (st' := [.int l4, .int s0]) bf208_69 bf208_71 rfl rfl).trans ?_
  exact bic bf208_71 rfl bf208_118 bf208_74 rfl rfl rfl
theorem bk208_74 {w : am_Wd} {l1 : Nat} {l3 : Nat} {l4 : Int32} {l5 : Int32} {l6 : Int32} : am_run 208 74 [none, some (.ref l1), none, some (.ref l3), some (.int l4), some (.int l5), some (.int l6)] [] w = (am_x 174 [.ref l1, .int l5, .int l6] w).bind fun r => bct r fun v w' => am_run 208 82 [none, some (.ref l1), none, some (.ref l3), some (.int l4), some (.int l5), some (.int l6)] (v.toList ++ []) w' := by
  refine (bu (ls'' := [none, some (.ref l1), none, some (.ref l3), some (.int l4), some (.int l5), some (.int l6)]) (st' := [.ref l1]) bf208_74 bf208_75 rfl rfl).trans ?_
  refine (bu (ls'' := [none, some (.ref l1), none, some (.ref l3), some (.int l4), some (.int l5), some (.int l6)]) (st' := [.int l5, .ref l1]) bf208_75 bf208_77 rfl rfl).trans ?_
  refine (bu (ls'' := [none, some (.ref l1), none, some (.ref l3), some (.int l4), some (.int l5), some (.int l6)]) (st' := [.int l6, .int l5, .ref l1]) bf208_77 bf208_79 rfl rfl).trans ?_
  exact bkS bf208_79 bf208_82 rfl (by decide +kernel) (Nat.le_of_ble_eq_true rfl) rfl (bhd rfl)
theorem bk208_82 {w : am_Wd} {l1 : Nat} {l3 : Nat} {l4 : Int32} {l5 : Int32} {l6 : Int32} {s0 : Int32} : am_run 208 82 [none, some (.ref l1), none, some (.ref l3), some (.int l4), some (.int l5), some (.int l6)] [.int s0] w = if ¬ s0 = (nI 1) then am_run 208 112 [none, some (.ref l1), none, some (.ref l3), some (.int l4), some (.int l5), some (.int l6)] [] w else am_run 208 86 [none, some (.ref l1), none, some (.ref l3), some (.int l4), some (.int l5), some (.int l6)] [] w := by
  refine (bu (ls'' := [none, some (.ref l1), none, some (.ref l3), some (.int l4), some (.int l5), some (.int l6)]) (st' := [.int (nI 1), .int s0]) bf208_82 bf208_83 rfl rfl).trans ?_
  exact bic bf208_83 rfl bf208_112 bf208_86 rfl rfl rfl
theorem bk208_112 {w : am_Wd} {l1 : Nat} {l3 : Nat} {l4 : Int32} {l5 : Int32} {l6 : Int32} : am_run 208 112 [none, some (.ref l1), none, some (.ref l3), some (.int l4), some (.int l5), some (.int l6)] [] w = am_run 208 59 [none, some (.ref l1), none, some (.ref l3), some (.int l4), some (.int l5), some (.int (l6 + (nI 1)))] [] w := by
  refine (bu (ls'' := [none, some (.ref l1), none, some (.ref l3), some (.int l4), some (.int l5), some (.int (l6 + (nI 1)))]) (st' := []) bf208_112 bf208_115 rfl rfl).trans ?_
  refine (bu (ls'' := [none, some (.ref l1), none, some (.ref l3), some (.int l4), some (.int l5), some (.int (l6 + (nI 1)))]) (st' := []) bf208_115 bf208_59 rfl rfl).trans ?_
  rfl
theorem bk208_86 {w : am_Wd} {l1 : Nat} {l3 : Nat} {l4 : Int32} {l5 : Int32} {l6 : Int32} : am_run 208 86 [none, some (.ref l1), none, some (.ref l3), some (.int l4), some (.int l5), some (.int l6)] [] w = (am_x 100 [.int l5, .int l6] w).bind fun r => bct r fun v w' => am_run 208 94 [none, some (.ref l1), none, some (.ref l3), some (.int l4), some (.int l5), some (.int l6)] (v.toList ++ [.ref l3]) w' := by
  refine (bu (ls'' := [none, some (.ref l1), none, some (.ref l3), some (.int l4), some (.int l5), some (.int l6)]) (st' := [.ref l3]) bf208_86 bf208_87 rfl rfl).trans ?_
  refine (bu (ls'' := [none, some (.ref l1), none, some (.ref l3), some (.int l4), some (.int l5), some (.int l6)]) (st' := [.int l5, .ref l3]) bf208_87 bf208_89 rfl rfl).trans ?_
  refine (bu (ls'' := [none, some (.ref l1), none, some (.ref l3), some (.int l4), some (.int l5), some (.int l6)]) (st' := [.int l6, .int l5, .ref l3]) bf208_89 bf208_91 rfl rfl).trans ?_
  exact bkS bf208_91 bf208_94 rfl (by decide +kernel) (Nat.le_of_ble_eq_true rfl) rfl (bhd rfl)
theorem bk208_94 {w : am_Wd} {l1 : Nat} {l3 : Nat} {l4 : Int32} {l5 : Int32} {l6 : Int32} {s0 : Int32} {s1 : Nat} : am_run 208 94 [none, some (.ref l1), none, some (.ref l3), some (.int l4), some (.int l5), some (.int l6)] [.int s0, .ref s1] w = (am_ri 0 w s1 s0).bind fun v => am_run 208 95 [none, some (.ref l1), none, some (.ref l3), some (.int l4), some (.int l5), some (.int l6)] (.int v :: []) w := by
  exact bh bf208_94 bf208_95 rfl (fun _ _ => am_ge_rf w) rfl
theorem bk208_95 {w : am_Wd} {l1 : Nat} {l3 : Nat} {l4 : Int32} {l5 : Int32} {l6 : Int32} {s0 : Int32} : am_run 208 95 [none, some (.ref l1), none, some (.ref l3), some (.int l4), some (.int l5), some (.int l6)] [.int s0] w = if ¬ s0 = (-1 : Int32) then am_run 208 112 [none, some (.ref l1), none, some (.ref l3), some (.int l4), some (.int l5), some (.int l6)] [] w else am_run 208 99 [none, some (.ref l1), none, some (.ref l3), some (.int l4), some (.int l5), some (.int l6)] [] w := by
  refine (bu (ls'' := [none, some (.ref l1), none, some (.ref l3), some (.int l4), some (.int l5), some (.int l6)]) (st' := [.int (-1 : Int32), .int s0]) bf208_95 bf208_96 rfl rfl).trans ?_
  exact bic bf208_96 rfl bf208_112 bf208_99 rfl rfl rfl
theorem bk208_99 {w : am_Wd} {l1 : Nat} {l3 : Nat} {l4 : Int32} {l5 : Int32} {l6 : Int32} : am_run 208 99 [none, some (.ref l1), none, some (.ref l3), some (.int l4), some (.int l5), some (.int l6)] [] w = (am_x 100 [.int l5, .int l6] w).bind fun r => bct r fun v w' => am_run 208 107 [none, some (.ref l1), none, some (.ref l3), some (.int l4), some (.int l5), some (.int l6)] (v.toList ++ [.ref l3]) w' := by
  refine (bu (ls'' := [none, some (.ref l1), none, some (.ref l3), some (.int l4), some (.int l5), some (.int l6)]) (st' := [.ref l3]) bf208_99 bf208_100 rfl rfl).trans ?_
  refine (bu (ls'' := [none, some (.ref l1), none, some (.ref l3), some (.int l4), some (.int l5), some (.int l6)]) (st' := [.int l5, .ref l3]) bf208_100 bf208_102 rfl rfl).trans ?_
  refine (bu (ls'' := [none, some (.ref l1), none, some (.ref l3), some (.int l4), some (.int l5), some (.int l6)]) (st' := [.int l6, .int l5, .ref l3]) bf208_102 bf208_104 rfl rfl).trans ?_
  exact bkS bf208_104 bf208_107 rfl (by decide +kernel) (Nat.le_of_ble_eq_true rfl) rfl (bhd rfl)
theorem bk208_107 {w : am_Wd} {l1 : Nat} {l3 : Nat} {l4 : Int32} {l5 : Int32} {l6 : Int32} {s0 : Int32} {s1 : Nat} : am_run 208 107 [none, some (.ref l1), none, some (.ref l3), some (.int l4), some (.int l5), some (.int l6)] [.int s0, .ref s1] w = (am_wi 0 w s1 s0 (l4 + (nI 1))).bind fun w' => am_run 208 112 [none, some (.ref l1), none, some (.ref l3), some (.int l4), some (.int l5), some (.int l6)] [] w' := by
  refine (bu (ls'' := [none, some (.ref l1), none, some (.ref l3), some (.int l4), some (.int l5), some (.int l6)]) (st' := [.int l4, .int s0, .ref s1]) bf208_107 bf208_109 rfl rfl).trans ?_
  refine (bu (ls'' := [none, some (.ref l1), none, some (.ref l3), some (.int l4), some (.int l5), some (.int l6)]) (st' := [.int (nI 1), .int l4, .int s0, .ref s1]) bf208_109 bf208_110 rfl rfl).trans ?_
  refine (bu (ls'' := [none, some (.ref l1), none, some (.ref l3), some (.int l4), some (.int l5), some (.int l6)]) (st' := [.int (l4 + (nI 1)), .int s0, .ref s1]) bf208_110 bf208_111 rfl rfl).trans ?_
  exact bh bf208_111 bf208_112 rfl (bge_wi) rfl
theorem bf209_0 : am_fetch (am_mth 209) 0 = some (.sipush 144, 3, [], [2, 3, 4]) := by decide +kernel
theorem bf209_3 : am_fetch (am_mth 209) 3 = some (.newarray .boolean, 2, [2, 1196], [2, 3, 4]) := by decide +kernel
theorem bf209_5 : am_fetch (am_mth 209) 5 = some (.astore_n 2, 1, [], [2, 3, 4]) := by decide +kernel
theorem bf209_6 : am_fetch (am_mth 209) 6 = some (.iconst 0, 1, [], [3, 4]) := by decide +kernel
theorem bf209_7 : am_fetch (am_mth 209) 7 = some (.istore_n 3, 1, [], [3, 4]) := by decide +kernel
theorem bf209_8 : am_fetch (am_mth 209) 8 = some (.iload_n 3, 1, [], [4]) := by decide +kernel
theorem bf209_9 : am_fetch (am_mth 209) 9 = some (.sipush 144, 3, [], [4]) := by decide +kernel
theorem bf209_12 : am_fetch (am_mth 209) 12 = some (.if_icmp .ge 85, 3, [], [4]) := by decide +kernel
theorem bf209_15 : am_fetch (am_mth 209) 15 = some (.aload_n 0, 1, [], [4]) := by decide +kernel
theorem bf209_16 : am_fetch (am_mth 209) 16 = some (.getfield 97, 3, [0, 10, 3, 1307], [4]) := by decide +kernel
theorem bf209_19 : am_fetch (am_mth 209) 19 = some (.iload_n 3, 1, [], [4]) := by decide +kernel
theorem bf209_20 : am_fetch (am_mth 209) 20 = some (.baload, 1, [2], [4]) := by decide +kernel
theorem bf209_21 : am_fetch (am_mth 209) 21 = some (.ifCond .ne 6, 3, [], [4]) := by decide +kernel
theorem bf209_24 : am_fetch (am_mth 209) 24 = some (.goto 67, 3, [], [4]) := by decide +kernel
theorem bf209_27 : am_fetch (am_mth 209) 27 = some (.aload_n 0, 1, [], [4]) := by decide +kernel
theorem bf209_28 : am_fetch (am_mth 209) 28 = some (.iload_n 3, 1, [], [4]) := by decide +kernel
theorem bf209_29 : am_fetch (am_mth 209) 29 = some (.iconst 4, 1, [], [4]) := by decide +kernel
theorem bf209_30 : am_fetch (am_mth 209) 30 = some (.idiv, 1, [], [4]) := by decide +kernel
theorem bf209_31 : am_fetch (am_mth 209) 31 = some (.iload_n 3, 1, [], [4]) := by decide +kernel
theorem bf209_32 : am_fetch (am_mth 209) 32 = some (.iconst 4, 1, [], [4]) := by decide +kernel
theorem bf209_33 : am_fetch (am_mth 209) 33 = some (.irem, 1, [], [4]) := by decide +kernel
theorem bf209_34 : am_fetch (am_mth 209) 34 = some (.invokestatic 118, 3, [0, 174, 3, 1431, 1432, 48], [4]) := by decide +kernel
theorem bf209_37 : am_fetch (am_mth 209) 37 = some (.istore 4, 2, [], [4]) := by decide +kernel
theorem bf209_39 : am_fetch (am_mth 209) 39 = some (.iload_n 1, 1, [], []) := by decide +kernel
theorem bf209_40 : am_fetch (am_mth 209) 40 = some (.ifCond .eq 23, 3, [], []) := by decide +kernel
theorem bf209_43 : am_fetch (am_mth 209) 43 = some (.aload_n 2, 1, [], []) := by decide +kernel
theorem bf209_44 : am_fetch (am_mth 209) 44 = some (.iload_n 3, 1, [], []) := by decide +kernel
theorem bf209_45 : am_fetch (am_mth 209) 45 = some (.dup2, 1, [], []) := by decide +kernel
theorem bf209_46 : am_fetch (am_mth 209) 46 = some (.baload, 1, [2], []) := by decide +kernel
theorem bf209_47 : am_fetch (am_mth 209) 47 = some (.iload 4, 2, [], []) := by decide +kernel
theorem bf209_49 : am_fetch (am_mth 209) 49 = some (.iconst 1, 1, [], [4]) := by decide +kernel
theorem bf209_50 : am_fetch (am_mth 209) 50 = some (.if_icmp .eq 7, 3, [], [4]) := by decide +kernel
theorem bf209_53 : am_fetch (am_mth 209) 53 = some (.iconst 1, 1, [], [4]) := by decide +kernel
theorem bf209_54 : am_fetch (am_mth 209) 54 = some (.goto 4, 3, [], [4]) := by decide +kernel
theorem bf209_57 : am_fetch (am_mth 209) 57 = some (.iconst 0, 1, [], [4]) := by decide +kernel
theorem bf209_58 : am_fetch (am_mth 209) 58 = some (.ior, 1, [], [4]) := by decide +kernel
theorem bf209_59 : am_fetch (am_mth 209) 59 = some (.bastore, 1, [2], [4]) := by decide +kernel
theorem bf209_60 : am_fetch (am_mth 209) 60 = some (.goto 31, 3, [], [4]) := by decide +kernel
theorem bf209_63 : am_fetch (am_mth 209) 63 = some (.iload 4, 2, [], []) := by decide +kernel
theorem bf209_65 : am_fetch (am_mth 209) 65 = some (.iconst 2, 1, [], [4]) := by decide +kernel
theorem bf209_66 : am_fetch (am_mth 209) 66 = some (.if_icmp .eq 25, 3, [], [4]) := by decide +kernel
theorem bf209_69 : am_fetch (am_mth 209) 69 = some (.aload_n 2, 1, [], [4]) := by decide +kernel
theorem bf209_70 : am_fetch (am_mth 209) 70 = some (.iload_n 3, 1, [], [4]) := by decide +kernel
theorem bf209_71 : am_fetch (am_mth 209) 71 = some (.iconst 1, 1, [], [4]) := by decide +kernel
theorem bf209_72 : am_fetch (am_mth 209) 72 = some (.bastore, 1, [2], [4]) := by decide +kernel
theorem bf209_73 : am_fetch (am_mth 209) 73 = some (.aload_n 2, 1, [], [4]) := by decide +kernel
theorem bf209_74 : am_fetch (am_mth 209) 74 = some (.iconst 4, 1, [], [4]) := by decide +kernel
theorem bf209_75 : am_fetch (am_mth 209) 75 = some (.iload_n 3, 1, [], [4]) := by decide +kernel
theorem bf209_76 : am_fetch (am_mth 209) 76 = some (.iconst 4, 1, [], [4]) := by decide +kernel
theorem bf209_77 : am_fetch (am_mth 209) 77 = some (.idiv, 1, [], [4]) := by decide +kernel
theorem bf209_78 : am_fetch (am_mth 209) 78 = some (.iload_n 3, 1, [], [4]) := by decide +kernel
theorem bf209_79 : am_fetch (am_mth 209) 79 = some (.iconst 4, 1, [], [4]) := by decide +kernel
theorem bf209_80 : am_fetch (am_mth 209) 80 = some (.irem, 1, [], [4]) := by decide +kernel
theorem bf209_81 : am_fetch (am_mth 209) 81 = some (.invokestatic 50, 3, [0, 100, 2, 1259, 1260, 48], [4]) := by decide +kernel
theorem bf209_84 : am_fetch (am_mth 209) 84 = some (.imul, 1, [], [4]) := by decide +kernel
theorem bf209_85 : am_fetch (am_mth 209) 85 = some (.iload_n 3, 1, [], [4]) := by decide +kernel
theorem bf209_86 : am_fetch (am_mth 209) 86 = some (.iconst 4, 1, [], [4]) := by decide +kernel
theorem bf209_87 : am_fetch (am_mth 209) 87 = some (.irem, 1, [], [4]) := by decide +kernel
theorem bf209_88 : am_fetch (am_mth 209) 88 = some (.iadd, 1, [], [4]) := by decide +kernel
theorem bf209_89 : am_fetch (am_mth 209) 89 = some (.iconst 1, 1, [], [4]) := by decide +kernel
theorem bf209_90 : am_fetch (am_mth 209) 90 = some (.bastore, 1, [2], [4]) := by decide +kernel
theorem bf209_91 : am_fetch (am_mth 209) 91 = some (.iinc 3 1, 3, [], [4]) := by decide +kernel
theorem bf209_94 : am_fetch (am_mth 209) 94 = some (.goto (-86), 3, [], [4]) := by decide +kernel
theorem bf209_97 : am_fetch (am_mth 209) 97 = some (.aload_n 2, 1, [], [0, 1, 3, 4]) := by decide +kernel
theorem bf209_98 : am_fetch (am_mth 209) 98 = some (.areturn, 1, [], [0, 1, 2, 3, 4]) := by decide +kernel
theorem bk209_0 {w : am_Wd} {l0 : Nat} {l1 : Int32} : am_run 209 0 [some (.ref l0), some (.int l1), none, none, none] [] w = (am_na w 2 (nI 144)).bind fun w' => am_run 209 5 [some (.ref l0), some (.int l1), none, none, none] (.ref w.2.1 :: []) w' := by
  refine (bu (ls'' := [some (.ref l0), some (.int l1), none, none, none]) (st' := [.int (nI 144)]) bf209_0 bf209_3 rfl rfl).trans ?_
  exact bh bf209_3 bf209_5 rfl (bge_na) rfl
theorem bk209_5 {w : am_Wd} {l0 : Nat} {l1 : Int32} {s0 : Nat} : am_run 209 5 [some (.ref l0), some (.int l1), none, none, none] [.ref s0] w = am_run 209 8 [some (.ref l0), some (.int l1), some (.ref s0), some (.int (nI 0)), none] [] w := by
  refine (bu (ls'' := [some (.ref l0), some (.int l1), some (.ref s0), none, none]) (st' := []) bf209_5 bf209_6 rfl rfl).trans ?_
  refine (bu (ls'' := [some (.ref l0), some (.int l1), some (.ref s0), none, none]) (st' := [.int (nI 0)]) bf209_6 bf209_7 rfl rfl).trans ?_
  refine (bu (ls'' := [some (.ref l0), some (.int l1), some (.ref s0), some (.int (nI 0)), none]) (st' := []) bf209_7 bf209_8 rfl rfl).trans ?_
  rfl
theorem bk209_8 {w : am_Wd} {l0 : Nat} {l1 : Int32} {l2 : Nat} {l3 : Int32} : am_run 209 8 [some (.ref l0), some (.int l1), some (.ref l2), some (.int l3), none] [] w = if (nI 144) ≤ l3 then am_run 209 97 [none, none, some (.ref l2), none, none] [] w else am_run 209 15 [some (.ref l0), some (.int l1), some (.ref l2), some (.int l3), none] [] w := by
  refine (bu (ls'' := [some (.ref l0), some (.int l1), some (.ref l2), some (.int l3), none]) (st' := [.int l3]) bf209_8 bf209_9 rfl rfl).trans ?_
  refine (bu (ls'' := [some (.ref l0), some (.int l1), some (.ref l2), some (.int l3), none]) (st' := [.int (nI 144), .int l3]) bf209_9 bf209_12 rfl rfl).trans ?_
  exact bic bf209_12 rfl bf209_97 bf209_15 rfl rfl rfl
theorem bk209_97 {w : am_Wd} {l2 : Nat} : am_run 209 97 [none, none, some (.ref l2), none, none] [] w = some (.inl (some (.ref l2)), w) := by
  refine (bu (ls'' := [none, none, none, none, none]) (st' := [.ref l2]) bf209_97 bf209_98 rfl rfl).trans ?_
  exact am_e2 bf209_98 rfl (am_ge_rf w)
theorem bk209_15 {w : am_Wd} {l0 : Nat} {l1 : Int32} {l2 : Nat} {l3 : Int32} : am_run 209 15 [some (.ref l0), some (.int l1), some (.ref l2), some (.int l3), none] [] w = (am_gf w l0 10 3).bind fun v => am_run 209 19 [some (.ref l0), some (.int l1), some (.ref l2), some (.int l3), none] (v :: []) w := by
  refine (bu (ls'' := [some (.ref l0), some (.int l1), some (.ref l2), some (.int l3), none]) (st' := [.ref l0]) bf209_15 bf209_16 rfl rfl).trans ?_
  exact bh bf209_16 bf209_19 rfl (fun _ _ => am_ge_rf w) rfl
theorem bk209_19 {w : am_Wd} {l0 : Nat} {l1 : Int32} {l2 : Nat} {l3 : Int32} {s0 : Nat} : am_run 209 19 [some (.ref l0), some (.int l1), some (.ref l2), some (.int l3), none] [.ref s0] w = (am_ri 2 w s0 l3).bind fun v => am_run 209 21 [some (.ref l0), some (.int l1), some (.ref l2), some (.int l3), none] (.int v :: []) w := by
  refine (bu (ls'' := [some (.ref l0), some (.int l1), some (.ref l2), some (.int l3), none]) (st' := [.int l3, .ref s0]) bf209_19 bf209_20 rfl rfl).trans ?_
  exact bh bf209_20 bf209_21 rfl (fun _ _ => am_ge_rf w) rfl
theorem bk209_21 {w : am_Wd} {l0 : Nat} {l1 : Int32} {l2 : Nat} {l3 : Int32} {s0 : Int32} : am_run 209 21 [some (.ref l0), some (.int l1), some (.ref l2), some (.int l3), none] [.int s0] w = if ¬ s0 = nI 0 then am_run 209 27 [some (.ref l0), some (.int l1), some (.ref l2), some (.int l3), none] [] w else am_run 209 24 [some (.ref l0), some (.int l1), some (.ref l2), some (.int l3), none] [] w := by
  exact bifc bf209_21 rfl bf209_27 bf209_24 rfl rfl rfl
theorem bk209_27 {w : am_Wd} {l0 : Nat} {l1 : Int32} {l2 : Nat} {l3 : Int32} : am_run 209 27 [some (.ref l0), some (.int l1), some (.ref l2), some (.int l3), none] [] w = (am_x 174 [.ref l0, .int (l3 / (nI 4)), .int (bj_irem l3 (nI 4))] w).bind fun r => bct r fun v w' => am_run 209 37 [some (.ref l0), some (.int l1), some (.ref l2), some (.int l3), none] (v.toList ++ []) w' := by
  refine (bu (ls'' := [some (.ref l0), some (.int l1), some (.ref l2), some (.int l3), none]) (st' := [.ref l0]) bf209_27 bf209_28 rfl rfl).trans ?_
  refine (bu (ls'' := [some (.ref l0), some (.int l1), some (.ref l2), some (.int l3), none]) (st' := [.int l3, .ref l0]) bf209_28 bf209_29 rfl rfl).trans ?_
  refine (bu (ls'' := [some (.ref l0), some (.int l1), some (.ref l2), some (.int l3), none]) (st' := [.int (nI 4), .int l3, .ref l0]) bf209_29 bf209_30 rfl rfl).trans ?_
  refine (bu (ls'' := [some (.ref l0), some (.int l1), some (.ref l2), some (.int l3), none]) (st' := [.int (l3 / (nI 4)), .ref l0]) bf209_30 bf209_31 rfl rfl).trans ?_
  refine (bu (ls'' := [some (.ref l0), some (.int l1), some (.ref l2), some (.int l3), none]) (st' := [.int l3, .int (l3 / (nI 4)), .ref l0]) bf209_31 bf209_32 rfl rfl).trans ?_
  refine (bu (ls'' := [some (.ref l0), some (.int l1), some (.ref l2), some (.int l3), none]) (st' := [.int (nI 4), .int l3, .int (l3 / (nI 4)), .ref l0]) bf209_32 bf209_33 rfl rfl).trans ?_
  refine (bu (ls'' := [some (.ref l0), some (.int l1), some (.ref l2), some (.int l3), none]) (st' := [.int (bj_irem l3 (nI 4)), .int (l3 / (nI 4)), .ref l0]) bf209_33 bf209_34 rfl rfl).trans ?_
  exact bkS bf209_34 bf209_37 rfl (by decide +kernel) (Nat.le_of_ble_eq_true rfl) rfl (bhd rfl)
theorem bk209_24 {w : am_Wd} {l0 : Nat} {l1 : Int32} {l2 : Nat} {l3 : Int32} : am_run 209 24 [some (.ref l0), some (.int l1), some (.ref l2), some (.int l3), none] [] w = am_run 209 91 [some (.ref l0), some (.int l1), some (.ref l2), some (.int l3), none] [] w := by
  refine (bu (ls'' := [some (.ref l0), some (.int l1), some (.ref l2), some (.int l3), none]) (st' := []) bf209_24 bf209_91 rfl rfl).trans ?_
  rfl
theorem bk209_37 {w : am_Wd} {l0 : Nat} {l1 : Int32} {l2 : Nat} {l3 : Int32} {s0 : Int32} : am_run 209 37 [some (.ref l0), some (.int l1), some (.ref l2), some (.int l3), none] [.int s0] w = if l1 = nI 0 then am_run 209 63 [some (.ref l0), some (.int l1), some (.ref l2), some (.int l3), some (.int s0)] [] w else am_run 209 43 [some (.ref l0), some (.int l1), some (.ref l2), some (.int l3), some (.int s0)] [] w := by
  refine (bu (ls'' := [some (.ref l0), some (.int l1), some (.ref l2), some (.int l3), some (.int s0)]) (st' := []) bf209_37 bf209_39 rfl rfl).trans ?_
  refine (bu (ls'' := [some (.ref l0), some (.int l1), some (.ref l2), some (.int l3), some (.int s0)]) (st' := [.int l1]) bf209_39 bf209_40 rfl rfl).trans ?_
  exact bifc bf209_40 rfl bf209_63 bf209_43 rfl rfl rfl
theorem bk209_91 {w : am_Wd} {l0 : Nat} {l1 : Int32} {l2 : Nat} {l3 : Int32} : am_run 209 91 [some (.ref l0), some (.int l1), some (.ref l2), some (.int l3), none] [] w = am_run 209 8 [some (.ref l0), some (.int l1), some (.ref l2), some (.int (l3 + (nI 1))), none] [] w := by
  refine (bu (ls'' := [some (.ref l0), some (.int l1), some (.ref l2), some (.int (l3 + (nI 1))), none]) (st' := []) bf209_91 bf209_94 rfl rfl).trans ?_
  refine (bu (ls'' := [some (.ref l0), some (.int l1), some (.ref l2), some (.int (l3 + (nI 1))), none]) (st' := []) bf209_94 bf209_8 rfl rfl).trans ?_
  rfl
theorem bk209_63 {w : am_Wd} {l0 : Nat} {l1 : Int32} {l2 : Nat} {l3 : Int32} {l4 : Int32} : am_run 209 63 [some (.ref l0), some (.int l1), some (.ref l2), some (.int l3), some (.int l4)] [] w = if l4 = (nI 2) then am_run 209 91 [some (.ref l0), some (.int l1), some (.ref l2), some (.int l3), none] [] w else am_run 209 69 [some (.ref l0), some (.int l1), some (.ref l2), some (.int l3), none] [] w := by
  refine (bu (ls'' := [some (.ref l0), some (.int l1), some (.ref l2), some (.int l3), none]) (st' := [.int l4]) bf209_63 bf209_65 rfl rfl).trans ?_
  refine (bu (ls'' := [some (.ref l0), some (.int l1), some (.ref l2), some (.int l3), none]) (st' := [.int (nI 2), .int l4]) bf209_65 bf209_66 rfl rfl).trans ?_
  exact bic bf209_66 rfl bf209_91 bf209_69 rfl rfl rfl
theorem bk209_43 {w : am_Wd} {l0 : Nat} {l1 : Int32} {l2 : Nat} {l3 : Int32} {l4 : Int32} : am_run 209 43 [some (.ref l0), some (.int l1), some (.ref l2), some (.int l3), some (.int l4)] [] w = (am_ri 2 w l2 l3).bind fun v => am_run 209 47 [some (.ref l0), some (.int l1), some (.ref l2), some (.int l3), some (.int l4)] (.int v :: [.int l3, .ref l2]) w := by
  refine (bu (ls'' := [some (.ref l0), some (.int l1), some (.ref l2), some (.int l3), some (.int l4)]) (st' := [.ref l2]) bf209_43 bf209_44 rfl rfl).trans ?_
  refine (bu (ls'' := [some (.ref l0), some (.int l1), some (.ref l2), some (.int l3), some (.int l4)]) (st' := [.int l3, .ref l2]) bf209_44 bf209_45 rfl rfl).trans ?_
  refine (bu (ls'' := [some (.ref l0), some (.int l1), some (.ref l2), some (.int l3), some (.int l4)]) (st' := [.int l3, .ref l2, .int l3, .ref l2]) bf209_45 bf209_46 rfl rfl).trans ?_
  exact bh bf209_46 bf209_47 rfl (fun _ _ => am_ge_rf w) rfl
theorem bk209_69 {w : am_Wd} {l0 : Nat} {l1 : Int32} {l2 : Nat} {l3 : Int32} : am_run 209 69 [some (.ref l0), some (.int l1), some (.ref l2), some (.int l3), none] [] w = (am_wi 2 w l2 l3 (vp_nar .boolean (nI 1))).bind fun w' => am_run 209 73 [some (.ref l0), some (.int l1), some (.ref l2), some (.int l3), none] [] w' := by
  refine (bu (ls'' := [some (.ref l0), some (.int l1), some (.ref l2), some (.int l3), none]) (st' := [.ref l2]) bf209_69 bf209_70 rfl rfl).trans ?_
  refine (bu (ls'' := [some (.ref l0), some (.int l1), some (.ref l2), some (.int l3), none]) (st' := [.int l3, .ref l2]) bf209_70 bf209_71 rfl rfl).trans ?_
  refine (bu (ls'' := [some (.ref l0), some (.int l1), some (.ref l2), some (.int l3), none]) (st' := [.int (nI 1), .int l3, .ref l2]) bf209_71 bf209_72 rfl rfl).trans ?_
  exact bh bf209_72 bf209_73 rfl (bge_wi) rfl
theorem bk209_47 {w : am_Wd} {l0 : Nat} {l1 : Int32} {l2 : Nat} {l3 : Int32} {l4 : Int32} {s0 : Int32} {s1 : Int32} {s2 : Nat} : am_run 209 47 [some (.ref l0), some (.int l1), some (.ref l2), some (.int l3), some (.int l4)] [.int s0, .int s1, .ref s2] w = if l4 = (nI 1) then am_run 209 57 [some (.ref l0), some (.int l1), some (.ref l2), some (.int l3), none] [.int s0, .int s1, .ref s2] w else am_run 209 53 [some (.ref l0), some (.int l1), some (.ref l2), some (.int l3), none] [.int s0, .int s1, .ref s2] w := by
  refine (bu (ls'' := [some (.ref l0), some (.int l1), some (.ref l2), some (.int l3), none]) (st' := [.int l4, .int s0, .int s1, .ref s2]) bf209_47 bf209_49 rfl rfl).trans ?_
  refine (bu (ls'' := [some (.ref l0), some (.int l1), some (.ref l2), some (.int l3), none]) (st' := [.int (nI 1), .int l4, .int s0, .int s1, .ref s2]) bf209_49 bf209_50 rfl rfl).trans ?_
  exact bic bf209_50 rfl bf209_57 bf209_53 rfl rfl rfl
theorem bk209_73 {w : am_Wd} {l0 : Nat} {l1 : Int32} {l2 : Nat} {l3 : Int32} : am_run 209 73 [some (.ref l0), some (.int l1), some (.ref l2), some (.int l3), none] [] w = (am_x 100 [.int (l3 / (nI 4)), .int (bj_irem l3 (nI 4))] w).bind fun r => bct r fun v w' => am_run 209 84 [some (.ref l0), some (.int l1), some (.ref l2), some (.int l3), none] (v.toList ++ [.int (nI 4), .ref l2]) w' := by
  refine (bu (ls'' := [some (.ref l0), some (.int l1), some (.ref l2), some (.int l3), none]) (st' := [.ref l2]) bf209_73 bf209_74 rfl rfl).trans ?_
  refine (bu (ls'' := [some (.ref l0), some (.int l1), some (.ref l2), some (.int l3), none]) (st' := [.int (nI 4), .ref l2]) bf209_74 bf209_75 rfl rfl).trans ?_
  refine (bu (ls'' := [some (.ref l0), some (.int l1), some (.ref l2), some (.int l3), none]) (st' := [.int l3, .int (nI 4), .ref l2]) bf209_75 bf209_76 rfl rfl).trans ?_
  refine (bu (ls'' := [some (.ref l0), some (.int l1), some (.ref l2), some (.int l3), none]) (st' := [.int (nI 4), .int l3, .int (nI 4), .ref l2]) bf209_76 bf209_77 rfl rfl).trans ?_
  refine (bu (ls'' := [some (.ref l0), some (.int l1), some (.ref l2), some (.int l3), none]) (st' := [.int (l3 / (nI 4)), .int (nI 4), .ref l2]) bf209_77 bf209_78 rfl rfl).trans ?_
  refine (bu (ls'' := [some (.ref l0), some (.int l1), some (.ref l2), some (.int l3), none]) (st' := [.int l3, .int (l3 / (nI 4)), .int (nI 4), .ref l2]) bf209_78 bf209_79 rfl rfl).trans ?_
  refine (bu (ls'' := [some (.ref l0), some (.int l1), some (.ref l2), some (.int l3), none]) (st' := [.int (nI 4), .int l3, .int (l3 / (nI 4)), .int (nI 4), .ref l2]) bf209_79 bf209_80 rfl rfl).trans ?_
  refine (bu (ls'' := [some (.ref l0), some (.int l1), some (.ref l2), some (.int l3), none]) (st' := [.int (bj_irem l3 (nI 4)), .int (l3 / (nI 4)), .int (nI 4), .ref l2]) bf209_80 bf209_81 rfl rfl).trans ?_
  exact bkS bf209_81 bf209_84 rfl (by decide +kernel) (Nat.le_of_ble_eq_true rfl) rfl (bhd rfl)
theorem bk209_57 {w : am_Wd} {l0 : Nat} {l1 : Int32} {l2 : Nat} {l3 : Int32} {s0 : Int32} {s1 : Int32} {s2 : Nat} : am_run 209 57 [some (.ref l0), some (.int l1), some (.ref l2), some (.int l3), none] [.int s0, .int s1, .ref s2] w = am_run 209 58 [some (.ref l0), some (.int l1), some (.ref l2), some (.int l3), none] [.int (nI 0), .int s0, .int s1, .ref s2] w := by
  refine (bu (ls'' := [some (.ref l0), some (.int l1), some (.ref l2), some (.int l3), none]) (st' := [.int (nI 0), .int s0, .int s1, .ref s2]) bf209_57 bf209_58 rfl rfl).trans ?_
  rfl
theorem bk209_53 {w : am_Wd} {l0 : Nat} {l1 : Int32} {l2 : Nat} {l3 : Int32} {s0 : Int32} {s1 : Int32} {s2 : Nat} : am_run 209 53 [some (.ref l0), some (.int l1), some (.ref l2), some (.int l3), none] [.int s0, .int s1, .ref s2] w = am_run 209 58 [some (.ref l0), some (.int l1), some (.ref l2), some (.int l3), none] [.int (nI 1), .int s0, .int s1, .ref s2] w := by
  refine (bu (ls'' := [some (.ref l0), some (.int l1), some (.ref l2), some (.int l3), none]) (st' := [.int (nI 1), .int s0, .int s1, .ref s2]) bf209_53 bf209_54 rfl rfl).trans ?_
  refine (bu (ls'' := [some (.ref l0), some (.int l1), some (.ref l2), some (.int l3), none]) (st' := [.int (nI 1), .int s0, .int s1, .ref s2]) bf209_54 bf209_58 rfl rfl).trans ?_
  rfl
theorem bk209_84 {w : am_Wd} {l0 : Nat} {l1 : Int32} {l2 : Nat} {l3 : Int32} {s0 : Int32} {s1 : Int32} {s2 : Nat} : am_run 209 84 [some (.ref l0), some (.int l1), some (.ref l2), some (.int l3), none] [.int s0, .int s1, .ref s2] w = (am_wi 2 w s2 ((s1 * s0) + (bj_irem l3 (nI 4))) (vp_nar .boolean (nI 1))).bind fun w' => am_run 209 91 [some (.ref l0), some (.int l1), some (.ref l2), some (.int l3), none] [] w' := by
  refine (bu (ls'' := [some (.ref l0), some (.int l1), some (.ref l2), some (.int l3), none]) (st' := [.int (s1 * s0), .ref s2]) bf209_84 bf209_85 rfl rfl).trans ?_
  refine (bu (ls'' := [some (.ref l0), some (.int l1), some (.ref l2), some (.int l3), none]) (st' := [.int l3, .int (s1 * s0), .ref s2]) bf209_85 bf209_86 rfl rfl).trans ?_
  refine (bu (ls'' := [some (.ref l0), some (.int l1), some (.ref l2), some (.int l3), none]) (st' := [.int (nI 4), .int l3, .int (s1 * s0), .ref s2]) bf209_86 bf209_87 rfl rfl).trans ?_
  refine (bu (ls'' := [some (.ref l0), some (.int l1), some (.ref l2), some (.int l3), none]) (st' := [.int (bj_irem l3 (nI 4)), .int (s1 * s0), .ref s2]) bf209_87 bf209_88 rfl rfl).trans ?_
  refine (bu (ls'' := [some (.ref l0), some (.int l1), some (.ref l2), some (.int l3), none]) (st' := [.int ((s1 * s0) + (bj_irem l3 (nI 4))), .ref s2]) bf209_88 bf209_89 rfl rfl).trans ?_
  refine (bu (ls'' := [some (.ref l0), some (.int l1), some (.ref l2), some (.int l3), none]) (st' := [.int (nI 1), .int ((s1 * s0) + (bj_irem l3 (nI 4))), .ref s2]) bf209_89 bf209_90 rfl rfl).trans ?_
  exact bh bf209_90 bf209_91 rfl (bge_wi) rfl
theorem bk209_58 {w : am_Wd} {l0 : Nat} {l1 : Int32} {l2 : Nat} {l3 : Int32} {s0 : Int32} {s1 : Int32} {s2 : Int32} {s3 : Nat} : am_run 209 58 [some (.ref l0), some (.int l1), some (.ref l2), some (.int l3), none] [.int s0, .int s1, .int s2, .ref s3] w = (am_wi 2 w s3 s2 (vp_nar .boolean (s1 ||| s0))).bind fun w' => am_run 209 60 [some (.ref l0), some (.int l1), some (.ref l2), some (.int l3), none] [] w' := by
  refine (bu (ls'' := [some (.ref l0), some (.int l1), some (.ref l2), some (.int l3), none]) (st' := [.int (s1 ||| s0), .int s2, .ref s3]) bf209_58 bf209_59 rfl rfl).trans ?_
  exact bh bf209_59 bf209_60 rfl (bge_wi) rfl
theorem bk209_60 {w : am_Wd} {l0 : Nat} {l1 : Int32} {l2 : Nat} {l3 : Int32} : am_run 209 60 [some (.ref l0), some (.int l1), some (.ref l2), some (.int l3), none] [] w = am_run 209 91 [some (.ref l0), some (.int l1), some (.ref l2), some (.int l3), none] [] w := by
  refine (bu (ls'' := [some (.ref l0), some (.int l1), some (.ref l2), some (.int l3), none]) (st' := []) bf209_60 bf209_91 rfl rfl).trans ?_
  rfl
theorem bf210_0 : am_fetch (am_mth 210) 0 = some (.iconst 0, 1, [], [3, 4]) := by decide +kernel
theorem bf210_1 : am_fetch (am_mth 210) 1 = some (.istore_n 3, 1, [], [3, 4]) := by decide +kernel
theorem bf210_2 : am_fetch (am_mth 210) 2 = some (.iconst 0, 1, [], [4]) := by decide +kernel
theorem bf210_3 : am_fetch (am_mth 210) 3 = some (.istore 4, 2, [], [4]) := by decide +kernel
theorem bf210_5 : am_fetch (am_mth 210) 5 = some (.iload 4, 2, [], []) := by decide +kernel
theorem bf210_7 : am_fetch (am_mth 210) 7 = some (.iconst 3, 1, [], []) := by decide +kernel
theorem bf210_8 : am_fetch (am_mth 210) 8 = some (.if_icmp .ge 36, 3, [], []) := by decide +kernel
theorem bf210_11 : am_fetch (am_mth 210) 11 = some (.iload_n 3, 1, [], []) := by decide +kernel
theorem bf210_12 : am_fetch (am_mth 210) 12 = some (.aload_n 0, 1, [], [3]) := by decide +kernel
theorem bf210_13 : am_fetch (am_mth 210) 13 = some (.iload_n 1, 1, [], [3]) := by decide +kernel
theorem bf210_14 : am_fetch (am_mth 210) 14 = some (.iload_n 2, 1, [], [3]) := by decide +kernel
theorem bf210_15 : am_fetch (am_mth 210) 15 = some (.iconst 3, 1, [], [3]) := by decide +kernel
theorem bf210_16 : am_fetch (am_mth 210) 16 = some (.iadd, 1, [], [3]) := by decide +kernel
theorem bf210_17 : am_fetch (am_mth 210) 17 = some (.iload 4, 2, [], [3]) := by decide +kernel
theorem bf210_19 : am_fetch (am_mth 210) 19 = some (.iadd, 1, [], [3]) := by decide +kernel
theorem bf210_20 : am_fetch (am_mth 210) 20 = some (.iconst 4, 1, [], [3]) := by decide +kernel
theorem bf210_21 : am_fetch (am_mth 210) 21 = some (.irem, 1, [], [3]) := by decide +kernel
theorem bf210_22 : am_fetch (am_mth 210) 22 = some (.invokevirtual 163, 3, [0, 173, 2, 11, 1438, 1440, 30, 48], [3]) := by decide +kernel
theorem bf210_25 : am_fetch (am_mth 210) 25 = some (.ifCond .eq 10, 3, [], [3]) := by decide +kernel
theorem bf210_28 : am_fetch (am_mth 210) 28 = some (.iconst 1, 1, [], [3]) := by decide +kernel
theorem bf210_29 : am_fetch (am_mth 210) 29 = some (.iload 4, 2, [], [3]) := by decide +kernel
theorem bf210_31 : am_fetch (am_mth 210) 31 = some (.ishl, 1, [], [3]) := by decide +kernel
theorem bf210_32 : am_fetch (am_mth 210) 32 = some (.goto 4, 3, [], [3]) := by decide +kernel
theorem bf210_35 : am_fetch (am_mth 210) 35 = some (.iconst 0, 1, [], [3]) := by decide +kernel
theorem bf210_36 : am_fetch (am_mth 210) 36 = some (.ior, 1, [], [3]) := by decide +kernel
theorem bf210_37 : am_fetch (am_mth 210) 37 = some (.istore_n 3, 1, [], [3]) := by decide +kernel
theorem bf210_38 : am_fetch (am_mth 210) 38 = some (.iinc 4 1, 3, [], []) := by decide +kernel
theorem bf210_41 : am_fetch (am_mth 210) 41 = some (.goto (-36), 3, [], []) := by decide +kernel
theorem bf210_44 : am_fetch (am_mth 210) 44 = some (.iload_n 3, 1, [], [0, 1, 2, 4]) := by decide +kernel
theorem bf210_45 : am_fetch (am_mth 210) 45 = some (.ireturn, 1, [0], [0, 1, 2, 3, 4]) := by decide +kernel
theorem bk210_0 {w : am_Wd} {l0 : Nat} {l1 : Int32} {l2 : Int32} : am_run 210 0 [some (.ref l0), some (.int l1), some (.int l2), none, none] [] w = am_run 210 5 [some (.ref l0), some (.int l1), some (.int l2), some (.int (nI 0)), some (.int (nI 0))] [] w := by
  refine (bu (ls'' := [some (.ref l0), some (.int l1), some (.int l2), none, none]) (st' := [.int (nI 0)]) bf210_0 bf210_1 rfl rfl).trans ?_
  refine (bu (ls'' := [some (.ref l0), some (.int l1), some (.int l2), some (.int (nI 0)), none]) (st' := []) bf210_1 bf210_2 rfl rfl).trans ?_
  refine (bu (ls'' := [some (.ref l0), some (.int l1), some (.int l2), some (.int (nI 0)), none]) (st' := [.int (nI 0)]) bf210_2 bf210_3 rfl rfl).trans ?_
  refine (bu (ls'' := [some (.ref l0), some (.int l1), some (.int l2), some (.int (nI 0)), some (.int (nI 0))]) (st' := []) bf210_3 bf210_5 rfl rfl).trans ?_
  rfl
theorem bk210_5 {w : am_Wd} {l0 : Nat} {l1 : Int32} {l2 : Int32} {l3 : Int32} {l4 : Int32} : am_run 210 5 [some (.ref l0), some (.int l1), some (.int l2), some (.int l3), some (.int l4)] [] w = if (nI 3) ≤ l4 then am_run 210 44 [none, none, none, some (.int l3), none] [] w else am_run 210 11 [some (.ref l0), some (.int l1), some (.int l2), some (.int l3), some (.int l4)] [] w := by
  refine (bu (ls'' := [some (.ref l0), some (.int l1), some (.int l2), some (.int l3), some (.int l4)]) (st' := [.int l4]) bf210_5 bf210_7 rfl rfl).trans ?_
  refine (bu (ls'' := [some (.ref l0), some (.int l1), some (.int l2), some (.int l3), some (.int l4)]) (st' := [.int (nI 3), .int l4]) bf210_7 bf210_8 rfl rfl).trans ?_
  exact bic bf210_8 rfl bf210_44 bf210_11 rfl rfl rfl
theorem bk210_44 {w : am_Wd} {l3 : Int32} : am_run 210 44 [none, none, none, some (.int l3), none] [] w = some (.inl (some (.int l3)), w) := by
  refine (bu (ls'' := [none, none, none, none, none]) (st' := [.int l3]) bf210_44 bf210_45 rfl rfl).trans ?_
  exact am_e2 bf210_45 rfl (am_ge_rf w)
theorem bk210_11 {w : am_Wd} {l0 : Nat} {l1 : Int32} {l2 : Int32} {l3 : Int32} {l4 : Int32} : am_run 210 11 [some (.ref l0), some (.int l1), some (.int l2), some (.int l3), some (.int l4)] [] w = (am_kf w l0 11).bind fun _ => (am_x 173 [.ref l0, .int l1, .int (bj_irem ((l2 + (nI 3)) + l4) (nI 4))] w).bind fun r => bct r fun v w' => am_run 210 25 [some (.ref l0), some (.int l1), some (.int l2), none, some (.int l4)] (v.toList ++ [.int l3]) w' := by
  refine (bu (ls'' := [some (.ref l0), some (.int l1), some (.int l2), none, some (.int l4)]) (st' := [.int l3]) bf210_11 bf210_12 rfl rfl).trans ?_
  refine (bu (ls'' := [some (.ref l0), some (.int l1), some (.int l2), none, some (.int l4)]) (st' := [.ref l0, .int l3]) bf210_12 bf210_13 rfl rfl).trans ?_
  refine (bu (ls'' := [some (.ref l0), some (.int l1), some (.int l2), none, some (.int l4)]) (st' := [.int l1, .ref l0, .int l3]) bf210_13 bf210_14 rfl rfl).trans ?_
  refine (bu (ls'' := [some (.ref l0), some (.int l1), some (.int l2), none, some (.int l4)]) (st' := [.int l2, .int l1, .ref l0, .int l3]) bf210_14 bf210_15 rfl rfl).trans ?_
  refine (bu (ls'' := [some (.ref l0), some (.int l1), some (.int l2), none, some (.int l4)]) (st' := [.int (nI 3), .int l2, .int l1, .ref l0, .int l3]) bf210_15 bf210_16 rfl rfl).trans ?_
  refine (bu (ls'' := [some (.ref l0), some (.int l1), some (.int l2), none, some (.int l4)]) (st' := [.int (l2 + (nI 3)), .int l1, .ref l0, .int l3]) bf210_16 bf210_17 rfl rfl).trans ?_
  refine (bu (ls'' := [some (.ref l0), some (.int l1), some (.int l2), none, some (.int l4)]) (st' := [.int l4, .int (l2 + (nI 3)), .int l1, .ref l0, .int l3]) bf210_17 bf210_19 rfl rfl).trans ?_
  refine (bu (ls'' := [some (.ref l0), some (.int l1), some (.int l2), none, some (.int l4)]) (st' := [.int ((l2 + (nI 3)) + l4), .int l1, .ref l0, .int l3]) bf210_19 bf210_20 rfl rfl).trans ?_
  refine (bu (ls'' := [some (.ref l0), some (.int l1), some (.int l2), none, some (.int l4)]) (st' := [.int (nI 4), .int ((l2 + (nI 3)) + l4), .int l1, .ref l0, .int l3]) bf210_20 bf210_21 rfl rfl).trans ?_
  refine (bu (ls'' := [some (.ref l0), some (.int l1), some (.int l2), none, some (.int l4)]) (st' := [.int (bj_irem ((l2 + (nI 3)) + l4) (nI 4)), .int l1, .ref l0, .int l3]) bf210_21 bf210_22 rfl rfl).trans ?_
  exact bkV bf210_22 bf210_25 rfl (by decide +kernel) (Nat.le_of_ble_eq_true rfl) rfl (bhd rfl)
theorem bk210_25 {w : am_Wd} {l0 : Nat} {l1 : Int32} {l2 : Int32} {l4 : Int32} {s0 : Int32} {s1 : Int32} : am_run 210 25 [some (.ref l0), some (.int l1), some (.int l2), none, some (.int l4)] [.int s0, .int s1] w = if s0 = nI 0 then am_run 210 35 [some (.ref l0), some (.int l1), some (.int l2), none, some (.int l4)] [.int s1] w else am_run 210 28 [some (.ref l0), some (.int l1), some (.int l2), none, some (.int l4)] [.int s1] w := by
  exact bifc bf210_25 rfl bf210_35 bf210_28 rfl rfl rfl
theorem bk210_35 {w : am_Wd} {l0 : Nat} {l1 : Int32} {l2 : Int32} {l4 : Int32} {s0 : Int32} : am_run 210 35 [some (.ref l0), some (.int l1), some (.int l2), none, some (.int l4)] [.int s0] w = am_run 210 36 [some (.ref l0), some (.int l1), some (.int l2), none, some (.int l4)] [.int (nI 0), .int s0] w := by
  refine (bu (ls'' := [some (.ref l0), some (.int l1), some (.int l2), none, some (.int l4)]) (st' := [.int (nI 0), .int s0]) bf210_35 bf210_36 rfl rfl).trans ?_
  rfl
theorem bk210_28 {w : am_Wd} {l0 : Nat} {l1 : Int32} {l2 : Int32} {l4 : Int32} {s0 : Int32} : am_run 210 28 [some (.ref l0), some (.int l1), some (.int l2), none, some (.int l4)] [.int s0] w = am_run 210 36 [some (.ref l0), some (.int l1), some (.int l2), none, some (.int l4)] [.int (bj_ishl (nI 1) l4), .int s0] w := by
  refine (bu (ls'' := [some (.ref l0), some (.int l1), some (.int l2), none, some (.int l4)]) (st' := [.int (nI 1), .int s0]) bf210_28 bf210_29 rfl rfl).trans ?_
  refine (bu (ls'' := [some (.ref l0), some (.int l1), some (.int l2), none, some (.int l4)]) (st' := [.int l4, .int (nI 1), .int s0]) bf210_29 bf210_31 rfl rfl).trans ?_
  refine (bu (ls'' := [some (.ref l0), some (.int l1), some (.int l2), none, some (.int l4)]) (st' := [.int (bj_ishl (nI 1) l4), .int s0]) bf210_31 bf210_32 rfl rfl).trans ?_
  refine (bu (ls'' := [some (.ref l0), some (.int l1), some (.int l2), none, some (.int l4)]) (st' := [.int (bj_ishl (nI 1) l4), .int s0]) bf210_32 bf210_36 rfl rfl).trans ?_
  rfl
theorem bk210_36 {w : am_Wd} {l0 : Nat} {l1 : Int32} {l2 : Int32} {l4 : Int32} {s0 : Int32} {s1 : Int32} : am_run 210 36 [some (.ref l0), some (.int l1), some (.int l2), none, some (.int l4)] [.int s0, .int s1] w = am_run 210 5 [some (.ref l0), some (.int l1), some (.int l2), some (.int (s1 ||| s0)), some (.int (l4 + (nI 1)))] [] w := by
  refine (bu (ls'' := [some (.ref l0), some (.int l1), some (.int l2), none, some (.int l4)]) (st' := [.int (s1 ||| s0)]) bf210_36 bf210_37 rfl rfl).trans ?_
  refine (bu (ls'' := [some (.ref l0), some (.int l1), some (.int l2), some (.int (s1 ||| s0)), some (.int l4)]) (st' := []) bf210_37 bf210_38 rfl rfl).trans ?_
  refine (bu (ls'' := [some (.ref l0), some (.int l1), some (.int l2), some (.int (s1 ||| s0)), some (.int (l4 + (nI 1)))]) (st' := []) bf210_38 bf210_41 rfl rfl).trans ?_
  refine (bu (ls'' := [some (.ref l0), some (.int l1), some (.int l2), some (.int (s1 ||| s0)), some (.int (l4 + (nI 1)))]) (st' := []) bf210_41 bf210_5 rfl rfl).trans ?_
  rfl
theorem bf211_0 : am_fetch (am_mth 211) 0 = some (.sipush 144, 3, [], [2, 3, 4, 5]) := by decide +kernel
theorem bf211_3 : am_fetch (am_mth 211) 3 = some (.newarray .boolean, 2, [2, 1196], [2, 3, 4, 5]) := by decide +kernel
theorem bf211_5 : am_fetch (am_mth 211) 5 = some (.astore_n 2, 1, [], [2, 3, 4, 5]) := by decide +kernel
theorem bf211_6 : am_fetch (am_mth 211) 6 = some (.iconst 0, 1, [], [3, 4, 5]) := by decide +kernel
theorem bf211_7 : am_fetch (am_mth 211) 7 = some (.istore_n 3, 1, [], [3, 4, 5]) := by decide +kernel
theorem bf211_8 : am_fetch (am_mth 211) 8 = some (.iload_n 3, 1, [], [4, 5]) := by decide +kernel
theorem bf211_9 : am_fetch (am_mth 211) 9 = some (.sipush 144, 3, [], [4, 5]) := by decide +kernel
theorem bf211_12 : am_fetch (am_mth 211) 12 = some (.if_icmp .ge 95, 3, [], [4, 5]) := by decide +kernel
theorem bf211_15 : am_fetch (am_mth 211) 15 = some (.aload_n 2, 1, [], [4, 5]) := by decide +kernel
theorem bf211_16 : am_fetch (am_mth 211) 16 = some (.iload_n 3, 1, [], [4, 5]) := by decide +kernel
theorem bf211_17 : am_fetch (am_mth 211) 17 = some (.aload_n 0, 1, [], [4, 5]) := by decide +kernel
theorem bf211_18 : am_fetch (am_mth 211) 18 = some (.getfield 97, 3, [0, 10, 3, 1307], [4, 5]) := by decide +kernel
theorem bf211_21 : am_fetch (am_mth 211) 21 = some (.iload_n 3, 1, [], [4, 5]) := by decide +kernel
theorem bf211_22 : am_fetch (am_mth 211) 22 = some (.baload, 1, [2], [4, 5]) := by decide +kernel
theorem bf211_23 : am_fetch (am_mth 211) 23 = some (.bastore, 1, [2], [4, 5]) := by decide +kernel
theorem bf211_24 : am_fetch (am_mth 211) 24 = some (.iconst 0, 1, [], [4, 5]) := by decide +kernel
theorem bf211_25 : am_fetch (am_mth 211) 25 = some (.istore 4, 2, [], [4, 5]) := by decide +kernel
theorem bf211_27 : am_fetch (am_mth 211) 27 = some (.iload 4, 2, [], [5]) := by decide +kernel
theorem bf211_29 : am_fetch (am_mth 211) 29 = some (.iconst 3, 1, [], [5]) := by decide +kernel
theorem bf211_30 : am_fetch (am_mth 211) 30 = some (.if_icmp .ge 71, 3, [], [5]) := by decide +kernel
theorem bf211_33 : am_fetch (am_mth 211) 33 = some (.aload_n 0, 1, [], [5]) := by decide +kernel
theorem bf211_34 : am_fetch (am_mth 211) 34 = some (.iload_n 3, 1, [], [5]) := by decide +kernel
theorem bf211_35 : am_fetch (am_mth 211) 35 = some (.iconst 4, 1, [], [5]) := by decide +kernel
theorem bf211_36 : am_fetch (am_mth 211) 36 = some (.idiv, 1, [], [5]) := by decide +kernel
theorem bf211_37 : am_fetch (am_mth 211) 37 = some (.iload_n 3, 1, [], [5]) := by decide +kernel
theorem bf211_38 : am_fetch (am_mth 211) 38 = some (.iconst 3, 1, [], [5]) := by decide +kernel
theorem bf211_39 : am_fetch (am_mth 211) 39 = some (.iadd, 1, [], [5]) := by decide +kernel
theorem bf211_40 : am_fetch (am_mth 211) 40 = some (.iload 4, 2, [], [5]) := by decide +kernel
theorem bf211_42 : am_fetch (am_mth 211) 42 = some (.iadd, 1, [], [5]) := by decide +kernel
theorem bf211_43 : am_fetch (am_mth 211) 43 = some (.iconst 4, 1, [], [5]) := by decide +kernel
theorem bf211_44 : am_fetch (am_mth 211) 44 = some (.irem, 1, [], [5]) := by decide +kernel
theorem bf211_45 : am_fetch (am_mth 211) 45 = some (.invokestatic 118, 3, [0, 174, 3, 1431, 1432, 48], [5]) := by decide +kernel
theorem bf211_48 : am_fetch (am_mth 211) 48 = some (.istore 5, 2, [], [5]) := by decide +kernel
theorem bf211_50 : am_fetch (am_mth 211) 50 = some (.aload_n 2, 1, [], []) := by decide +kernel
theorem bf211_51 : am_fetch (am_mth 211) 51 = some (.iload_n 3, 1, [], []) := by decide +kernel
theorem bf211_52 : am_fetch (am_mth 211) 52 = some (.dup2, 1, [], []) := by decide +kernel
theorem bf211_53 : am_fetch (am_mth 211) 53 = some (.baload, 1, [2], []) := by decide +kernel
theorem bf211_54 : am_fetch (am_mth 211) 54 = some (.iload 5, 2, [], []) := by decide +kernel
theorem bf211_56 : am_fetch (am_mth 211) 56 = some (.ifCond .eq 32, 3, [], []) := by decide +kernel
theorem bf211_59 : am_fetch (am_mth 211) 59 = some (.iload 5, 2, [], []) := by decide +kernel
theorem bf211_61 : am_fetch (am_mth 211) 61 = some (.iconst 2, 1, [], [5]) := by decide +kernel
theorem bf211_62 : am_fetch (am_mth 211) 62 = some (.if_icmp .ne 7, 3, [], [5]) := by decide +kernel
theorem bf211_65 : am_fetch (am_mth 211) 65 = some (.iconst 1, 1, [], [5]) := by decide +kernel
theorem bf211_66 : am_fetch (am_mth 211) 66 = some (.goto 4, 3, [], [5]) := by decide +kernel
theorem bf211_69 : am_fetch (am_mth 211) 69 = some (.iconst 0, 1, [], [5]) := by decide +kernel
