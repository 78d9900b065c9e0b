/-! RULES, on. Mine. -/
theorem bk242_66 {w : am_Wd} {l0 : Nat} {l1 : Int32} {l3 : Nat} {l4 : Int32} {l5 : Int32} : am_run 242 66 [some (.ref l0), some (.int l1), none, some (.ref l3), some (.int l4), some (.int l5), none] [] w = am_run 242 18 [some (.ref l0), some (.int l1), none, some (.ref l3), some (.int l4), some (.int (l5 + (nI 1))), none] [] w := by
  refine (bu (ls'' := [some (.ref l0), some (.int l1), none, some (.ref l3), some (.int l4), some (.int (l5 + (nI 1))), none]) (st' := []) bf242_66 bf242_69 rfl rfl).trans ?_
  refine (bu (ls'' := [some (.ref l0), some (.int l1), none, some (.ref l3), some (.int l4), some (.int (l5 + (nI 1))), none]) (st' := []) bf242_69 bf242_18 rfl rfl).trans ?_
  rfl
theorem bk242_43 {w : am_Wd} {l0 : Nat} {l1 : Int32} {l3 : Nat} {l4 : Int32} {l5 : Int32} {l6 : Nat} : am_run 242 43 [some (.ref l0), some (.int l1), none, some (.ref l3), some (.int l4), some (.int l5), some (.ref l6)] [] w = (am_kf w l3 6).bind fun _ => (am_x 17 [.ref l3] w).bind fun r => bct r fun v w' => am_run 242 52 [some (.ref l0), some (.int l1), none, some (.ref l3), some (.int l4), some (.int l5), some (.ref l6)] (v.toList ++ []) w' := by
  refine (bu (ls'' := [some (.ref l0), some (.int l1), none, some (.ref l3), some (.int l4), some (.int l5), some (.ref l6)]) (st' := [.ref l6]) bf242_43 bf242_45 rfl rfl).trans ?_
  refine (bu (ls'' := [some (.ref l0), some (.int l1), none, some (.ref l3), some (.int l4), some (.int l5), some (.ref l6)]) (st' := []) bf242_45 bf242_48 rfl rfl).trans ?_
  refine (bu (ls'' := [some (.ref l0), some (.int l1), none, some (.ref l3), some (.int l4), some (.int l5), some (.ref l6)]) (st' := [.ref l3]) bf242_48 bf242_49 rfl rfl).trans ?_
  exact bkV bf242_49 bf242_52 rfl (by decide +kernel) (Nat.le_of_ble_eq_true rfl) rfl (bhd rfl)
theorem bk242_43a {w : am_Wd} {l0 : Nat} {l1 : Int32} {l3 : Nat} {l4 : Int32} {l5 : Int32} : am_run 242 43 [some (.ref l0), some (.int l1), none, some (.ref l3), some (.int l4), some (.int l5), some (.null)] [] w = am_run 242 66 [some (.ref l0), some (.int l1), none, some (.ref l3), some (.int l4), some (.int l5), none] [] w := by
  refine (bu (ls'' := [some (.ref l0), some (.int l1), none, some (.ref l3), some (.int l4), some (.int l5), some (.null)]) (st' := [.null]) bf242_43 bf242_45 rfl rfl).trans ?_
  refine (bu (ls'' := [some (.ref l0), some (.int l1), none, some (.ref l3), some (.int l4), some (.int l5), none]) (st' := []) bf242_45 bf242_66 rfl rfl).trans ?_
  rfl
theorem bk242_52 {w : am_Wd} {l0 : Nat} {l1 : Int32} {l3 : Nat} {l4 : Int32} {l5 : Int32} {l6 : Nat} {s0 : Int32} : am_run 242 52 [some (.ref l0), some (.int l1), none, some (.ref l3), some (.int l4), some (.int l5), some (.ref l6)] [.int s0] w = (am_kf w l6 6).bind fun _ => (am_x 17 [.ref l6] w).bind fun r => bct r fun v w' => am_run 242 57 [some (.ref l0), some (.int l1), none, some (.ref l3), some (.int l4), some (.int l5), none] (v.toList ++ [.int s0]) w' := by
  refine (bu (ls'' := [some (.ref l0), some (.int l1), none, some (.ref l3), some (.int l4), some (.int l5), none]) (st' := [.ref l6, .int s0]) bf242_52 bf242_54 rfl rfl).trans ?_
  exact bkV bf242_54 bf242_57 rfl (by decide +kernel) (Nat.le_of_ble_eq_true rfl) rfl (bhd rfl)
theorem bk242_57 {w : am_Wd} {l0 : Nat} {l1 : Int32} {l3 : Nat} {l4 : Int32} {l5 : Int32} {s0 : Int32} {s1 : Int32} : am_run 242 57 [some (.ref l0), some (.int l1), none, some (.ref l3), some (.int l4), some (.int l5), none] [.int s0, .int s1] w = (am_x 16 [.int s1, .int s0] w).bind fun r => bct r fun v w' => am_run 242 60 [some (.ref l0), some (.int l1), none, some (.ref l3), some (.int l4), some (.int l5), none] (v.toList ++ []) w' := by
  exact bkS bf242_57 bf242_60 rfl (by decide +kernel) (Nat.le_of_ble_eq_true rfl) rfl (bhd rfl)
theorem bk242_60 {w : am_Wd} {l0 : Nat} {l1 : Int32} {l3 : Nat} {l4 : Int32} {l5 : Int32} {s0 : Int32} : am_run 242 60 [some (.ref l0), some (.int l1), none, some (.ref l3), some (.int l4), some (.int l5), none] [.int s0] w = if s0 = nI 0 then am_run 242 66 [some (.ref l0), some (.int l1), none, some (.ref l3), some (.int l4), some (.int l5), none] [] w else am_run 242 63 [some (.ref l0), some (.int l1), none, some (.ref l3), some (.int l4), some (.int l5), none] [] w := by
  exact bifc bf242_60 rfl bf242_66 bf242_63 rfl rfl rfl
theorem bk242_63 {w : am_Wd} {l0 : Nat} {l1 : Int32} {l3 : Nat} {l4 : Int32} {l5 : Int32} : am_run 242 63 [some (.ref l0), some (.int l1), none, some (.ref l3), some (.int l4), some (.int l5), none] [] w = am_run 242 66 [some (.ref l0), some (.int l1), none, some (.ref l3), some (.int (l4 + (nI 1))), some (.int l5), none] [] w := by
  refine (bu (ls'' := [some (.ref l0), some (.int l1), none, some (.ref l3), some (.int (l4 + (nI 1))), some (.int l5), none]) (st' := []) bf242_63 bf242_66 rfl rfl).trans ?_
  rfl
theorem bf244_0 : am_fetch (am_mth 244) 0 = some (.lload_n 1, 1, [], [2, 4, 5, 6]) := by decide +kernel
theorem bf244_1 : am_fetch (am_mth 244) 1 = some (.lstore 4, 2, [], [1, 2, 4, 5, 6]) := by decide +kernel
theorem bf244_3 : am_fetch (am_mth 244) 3 = some (.iconst 0, 1, [], [1, 2, 5, 6]) := by decide +kernel
theorem bf244_4 : am_fetch (am_mth 244) 4 = some (.istore 6, 2, [], [1, 2, 5, 6]) := by decide +kernel
theorem bf244_6 : am_fetch (am_mth 244) 6 = some (.iload 6, 2, [], [1, 2, 5]) := by decide +kernel
theorem bf244_8 : am_fetch (am_mth 244) 8 = some (.bipush 12, 2, [], [1, 2, 5]) := by decide +kernel
theorem bf244_10 : am_fetch (am_mth 244) 10 = some (.if_icmp .gt 24, 3, [], [1, 2, 5]) := by decide +kernel
theorem bf244_13 : am_fetch (am_mth 244) 13 = some (.lload 4, 2, [], [1, 2, 5]) := by decide +kernel
theorem bf244_15 : am_fetch (am_mth 244) 15 = some (.aload_n 0, 1, [], [1, 2, 4, 5]) := by decide +kernel
theorem bf244_16 : am_fetch (am_mth 244) 16 = some (.iload_n 3, 1, [], [1, 2, 4, 5]) := by decide +kernel
theorem bf244_17 : am_fetch (am_mth 244) 17 = some (.iload 6, 2, [], [1, 2, 4, 5]) := by decide +kernel
theorem bf244_19 : am_fetch (am_mth 244) 19 = some (.invokevirtual 312, 3, [0, 201, 2, 8, 487, 340, 341, 17], [1, 2, 4, 5]) := by decide +kernel
theorem bf244_22 : am_fetch (am_mth 244) 22 = some (.i2l, 1, [], [1, 2, 4, 5]) := by decide +kernel
theorem bf244_23 : am_fetch (am_mth 244) 23 = some (.invokestatic 298, 3, [0, 25, 2, 461, 462, 17], [1, 2, 4, 5]) := by decide +kernel
theorem bf244_26 : am_fetch (am_mth 244) 26 = some (.lstore 4, 2, [], [1, 2, 4, 5]) := by decide +kernel
theorem bf244_28 : am_fetch (am_mth 244) 28 = some (.iinc 6 1, 3, [], [1, 2, 5]) := by decide +kernel
theorem bf244_31 : am_fetch (am_mth 244) 31 = some (.goto (-25), 3, [], [1, 2, 5]) := by decide +kernel
theorem bf244_34 : am_fetch (am_mth 244) 34 = some (.iconst 0, 1, [], [1, 2, 5, 6]) := by decide +kernel
theorem bf244_35 : am_fetch (am_mth 244) 35 = some (.istore 6, 2, [], [1, 2, 5, 6]) := by decide +kernel
theorem bf244_37 : am_fetch (am_mth 244) 37 = some (.iload 6, 2, [], [1, 2, 5]) := by decide +kernel
theorem bf244_39 : am_fetch (am_mth 244) 39 = some (.iconst 4, 1, [], [1, 2, 5]) := by decide +kernel
theorem bf244_40 : am_fetch (am_mth 244) 40 = some (.if_icmp .ge 23, 3, [], [1, 2, 5]) := by decide +kernel
theorem bf244_43 : am_fetch (am_mth 244) 43 = some (.lload 4, 2, [], [1, 2, 5]) := by decide +kernel
theorem bf244_45 : am_fetch (am_mth 244) 45 = some (.aload_n 0, 1, [], [1, 2, 4, 5]) := by decide +kernel
theorem bf244_46 : am_fetch (am_mth 244) 46 = some (.iload_n 3, 1, [], [1, 2, 4, 5]) := by decide +kernel
theorem bf244_47 : am_fetch (am_mth 244) 47 = some (.iload 6, 2, [], [1, 2, 4, 5]) := by decide +kernel
theorem bf244_49 : am_fetch (am_mth 244) 49 = some (.invokevirtual 315, 3, [0, 139, 2, 8, 488, 489, 490, 17], [1, 2, 4, 5]) := by decide +kernel
theorem bf244_52 : am_fetch (am_mth 244) 52 = some (.invokestatic 298, 3, [0, 25, 2, 461, 462, 17], [1, 2, 4, 5]) := by decide +kernel
theorem bf244_55 : am_fetch (am_mth 244) 55 = some (.lstore 4, 2, [], [1, 2, 4, 5]) := by decide +kernel
theorem bf244_57 : am_fetch (am_mth 244) 57 = some (.iinc 6 1, 3, [], [1, 2, 5]) := by decide +kernel
theorem bf244_60 : am_fetch (am_mth 244) 60 = some (.goto (-23), 3, [], [1, 2, 5]) := by decide +kernel
theorem bf244_63 : am_fetch (am_mth 244) 63 = some (.iconst 0, 1, [], [1, 2, 5, 6]) := by decide +kernel
theorem bf244_64 : am_fetch (am_mth 244) 64 = some (.istore 6, 2, [], [1, 2, 5, 6]) := by decide +kernel
theorem bf244_66 : am_fetch (am_mth 244) 66 = some (.iload 6, 2, [], [1, 2, 5]) := by decide +kernel
theorem bf244_68 : am_fetch (am_mth 244) 68 = some (.iconst 3, 1, [], [1, 2, 5]) := by decide +kernel
theorem bf244_69 : am_fetch (am_mth 244) 69 = some (.if_icmp .gt 24, 3, [], [1, 2, 5]) := by decide +kernel
theorem bf244_72 : am_fetch (am_mth 244) 72 = some (.lload 4, 2, [], [1, 2, 5]) := by decide +kernel
theorem bf244_74 : am_fetch (am_mth 244) 74 = some (.aload_n 0, 1, [], [1, 2, 4, 5]) := by decide +kernel
theorem bf244_75 : am_fetch (am_mth 244) 75 = some (.iload_n 3, 1, [], [1, 2, 4, 5]) := by decide +kernel
theorem bf244_76 : am_fetch (am_mth 244) 76 = some (.iload 6, 2, [], [1, 2, 4, 5]) := by decide +kernel
theorem bf244_78 : am_fetch (am_mth 244) 78 = some (.invokevirtual 319, 3, [0, 223, 2, 8, 492, 493, 494, 17], [1, 2, 4, 5]) := by decide +kernel
theorem bf244_81 : am_fetch (am_mth 244) 81 = some (.i2l, 1, [], [1, 2, 4, 5]) := by decide +kernel
theorem bf244_82 : am_fetch (am_mth 244) 82 = some (.invokestatic 298, 3, [0, 25, 2, 461, 462, 17], [1, 2, 4, 5]) := by decide +kernel
theorem bf244_85 : am_fetch (am_mth 244) 85 = some (.lstore 4, 2, [], [1, 2, 4, 5]) := by decide +kernel
theorem bf244_87 : am_fetch (am_mth 244) 87 = some (.iinc 6 1, 3, [], [1, 2, 5]) := by decide +kernel
theorem bf244_90 : am_fetch (am_mth 244) 90 = some (.goto (-24), 3, [], [1, 2, 5]) := by decide +kernel
theorem bf244_93 : am_fetch (am_mth 244) 93 = some (.iconst 0, 1, [], [1, 2, 5, 6]) := by decide +kernel
theorem bf244_94 : am_fetch (am_mth 244) 94 = some (.istore 6, 2, [], [1, 2, 5, 6]) := by decide +kernel
theorem bf244_96 : am_fetch (am_mth 244) 96 = some (.iload 6, 2, [], [1, 2, 5]) := by decide +kernel
theorem bf244_98 : am_fetch (am_mth 244) 98 = some (.iconst 4, 1, [], [1, 2, 5]) := by decide +kernel
theorem bf244_99 : am_fetch (am_mth 244) 99 = some (.if_icmp .ge 24, 3, [], [1, 2, 5]) := by decide +kernel
theorem bf244_102 : am_fetch (am_mth 244) 102 = some (.lload 4, 2, [], [1, 2, 5]) := by decide +kernel
theorem bf244_104 : am_fetch (am_mth 244) 104 = some (.aload_n 0, 1, [], [1, 2, 4, 5]) := by decide +kernel
theorem bf244_105 : am_fetch (am_mth 244) 105 = some (.iload_n 3, 1, [], [1, 2, 4, 5]) := by decide +kernel
theorem bf244_106 : am_fetch (am_mth 244) 106 = some (.iload 6, 2, [], [1, 2, 4, 5]) := by decide +kernel
theorem bf244_108 : am_fetch (am_mth 244) 108 = some (.invokevirtual 322, 3, [0, 202, 2, 8, 531, 417, 418, 17], [1, 2, 4, 5]) := by decide +kernel
theorem bf244_111 : am_fetch (am_mth 244) 111 = some (.i2l, 1, [], [1, 2, 4, 5]) := by decide +kernel
theorem bf244_112 : am_fetch (am_mth 244) 112 = some (.invokestatic 298, 3, [0, 25, 2, 461, 462, 17], [1, 2, 4, 5]) := by decide +kernel
theorem bf244_115 : am_fetch (am_mth 244) 115 = some (.lstore 4, 2, [], [1, 2, 4, 5]) := by decide +kernel
theorem bf244_117 : am_fetch (am_mth 244) 117 = some (.iinc 6 1, 3, [], [1, 2, 5]) := by decide +kernel
theorem bf244_120 : am_fetch (am_mth 244) 120 = some (.goto (-24), 3, [], [1, 2, 5]) := by decide +kernel
theorem bf244_123 : am_fetch (am_mth 244) 123 = some (.lload 4, 2, [], [1, 2, 5, 6]) := by decide +kernel
theorem bf244_125 : am_fetch (am_mth 244) 125 = some (.aload_n 0, 1, [], [1, 2, 4, 5, 6]) := by decide +kernel
theorem bf244_126 : am_fetch (am_mth 244) 126 = some (.iload_n 3, 1, [], [1, 2, 4, 5, 6]) := by decide +kernel
theorem bf244_127 : am_fetch (am_mth 244) 127 = some (.invokevirtual 325, 3, [0, 203, 1, 8, 532, 533, 534, 17], [1, 2, 4, 5, 6]) := by decide +kernel
theorem bf244_130 : am_fetch (am_mth 244) 130 = some (.i2l, 1, [], [1, 2, 4, 5, 6]) := by decide +kernel
theorem bf244_131 : am_fetch (am_mth 244) 131 = some (.invokestatic 298, 3, [0, 25, 2, 461, 462, 17], [1, 2, 4, 5, 6]) := by decide +kernel
theorem bf244_134 : am_fetch (am_mth 244) 134 = some (.lstore 4, 2, [], [1, 2, 4, 5, 6]) := by decide +kernel
theorem bf244_136 : am_fetch (am_mth 244) 136 = some (.lload 4, 2, [], [1, 2, 5, 6]) := by decide +kernel
theorem bf244_138 : am_fetch (am_mth 244) 138 = some (.ldc2_w 328, 3, [1, 4634204016564240384, 536], [1, 2, 4, 5, 6]) := by decide +kernel
theorem bf244_141 : am_fetch (am_mth 244) 141 = some (.aload_n 0, 1, [], [1, 2, 4, 5, 6]) := by decide +kernel
theorem bf244_142 : am_fetch (am_mth 244) 142 = some (.iload_n 3, 1, [], [1, 2, 4, 5, 6]) := by decide +kernel
theorem bf244_143 : am_fetch (am_mth 244) 143 = some (.invokevirtual 330, 3, [0, 91, 1, 8, 537, 538, 539, 17], [1, 2, 4, 5, 6]) := by decide +kernel
theorem bf244_146 : am_fetch (am_mth 244) 146 = some (.dmul, 1, [], [1, 2, 4, 5, 6]) := by decide +kernel
theorem bf244_147 : am_fetch (am_mth 244) 147 = some (.d2l, 1, [], [1, 2, 4, 5, 6]) := by decide +kernel
theorem bf244_148 : am_fetch (am_mth 244) 148 = some (.invokestatic 298, 3, [0, 25, 2, 461, 462, 17], [1, 2, 4, 5, 6]) := by decide +kernel
theorem bf244_151 : am_fetch (am_mth 244) 151 = some (.lstore 4, 2, [], [1, 2, 4, 5, 6]) := by decide +kernel
theorem bf244_153 : am_fetch (am_mth 244) 153 = some (.iconst 0, 1, [], [1, 2, 5, 6]) := by decide +kernel
theorem bf244_154 : am_fetch (am_mth 244) 154 = some (.istore 6, 2, [], [1, 2, 5, 6]) := by decide +kernel
theorem bf244_156 : am_fetch (am_mth 244) 156 = some (.iload 6, 2, [], [1, 2, 5]) := by decide +kernel
theorem bf244_158 : am_fetch (am_mth 244) 158 = some (.bipush 36, 2, [], [1, 2, 5]) := by decide +kernel
theorem bf244_160 : am_fetch (am_mth 244) 160 = some (.if_icmp .ge 41, 3, [], [1, 2, 5]) := by decide +kernel
theorem bf244_163 : am_fetch (am_mth 244) 163 = some (.lload 4, 2, [], [1, 2, 5]) := by decide +kernel
theorem bf244_165 : am_fetch (am_mth 244) 165 = some (.aload_n 0, 1, [], [1, 2, 4, 5]) := by decide +kernel
theorem bf244_166 : am_fetch (am_mth 244) 166 = some (.iload_n 3, 1, [], [1, 2, 4, 5]) := by decide +kernel
theorem bf244_167 : am_fetch (am_mth 244) 167 = some (.iload 6, 2, [], [1, 2, 4, 5]) := by decide +kernel
theorem bf244_169 : am_fetch (am_mth 244) 169 = some (.iconst 1, 1, [], [1, 2, 4, 5]) := by decide +kernel
theorem bf244_170 : am_fetch (am_mth 244) 170 = some (.invokevirtual 334, 3, [0, 137, 3, 8, 546, 547, 548, 17], [1, 2, 4, 5]) := by decide +kernel
theorem bf244_173 : am_fetch (am_mth 244) 173 = some (.i2l, 1, [], [1, 2, 4, 5]) := by decide +kernel
theorem bf244_174 : am_fetch (am_mth 244) 174 = some (.invokestatic 298, 3, [0, 25, 2, 461, 462, 17], [1, 2, 4, 5]) := by decide +kernel
theorem bf244_177 : am_fetch (am_mth 244) 177 = some (.lstore 4, 2, [], [1, 2, 4, 5]) := by decide +kernel
theorem bf244_179 : am_fetch (am_mth 244) 179 = some (.lload 4, 2, [], [1, 2, 5]) := by decide +kernel
theorem bf244_181 : am_fetch (am_mth 244) 181 = some (.aload_n 0, 1, [], [1, 2, 4, 5]) := by decide +kernel
theorem bf244_182 : am_fetch (am_mth 244) 182 = some (.iload_n 3, 1, [], [1, 2, 4, 5]) := by decide +kernel
theorem bf244_183 : am_fetch (am_mth 244) 183 = some (.iload 6, 2, [], [1, 2, 4, 5]) := by decide +kernel
theorem bf244_185 : am_fetch (am_mth 244) 185 = some (.iconst 2, 1, [], [1, 2, 4, 5]) := by decide +kernel
theorem bf244_186 : am_fetch (am_mth 244) 186 = some (.invokevirtual 334, 3, [0, 137, 3, 8, 546, 547, 548, 17], [1, 2, 4, 5]) := by decide +kernel
theorem bf244_189 : am_fetch (am_mth 244) 189 = some (.i2l, 1, [], [1, 2, 4, 5]) := by decide +kernel
theorem bf244_190 : am_fetch (am_mth 244) 190 = some (.invokestatic 298, 3, [0, 25, 2, 461, 462, 17], [1, 2, 4, 5]) := by decide +kernel
theorem bf244_193 : am_fetch (am_mth 244) 193 = some (.lstore 4, 2, [], [1, 2, 4, 5]) := by decide +kernel
theorem bf244_195 : am_fetch (am_mth 244) 195 = some (.iinc 6 1, 3, [], [1, 2, 5]) := by decide +kernel
theorem bf244_198 : am_fetch (am_mth 244) 198 = some (.goto (-42), 3, [], [1, 2, 5]) := by decide +kernel
theorem bf244_201 : am_fetch (am_mth 244) 201 = some (.lload 4, 2, [], [0, 1, 2, 3, 5, 6]) := by decide +kernel
theorem bf244_203 : am_fetch (am_mth 244) 203 = some (.lreturn, 1, [], [0, 1, 2, 3, 4, 5, 6]) := by decide +kernel
theorem bk244_0 {w : am_Wd} {l0 : Nat} {l1 : Int64} {l3 : Int32} : am_run 244 0 [some (.ref l0), some (.long l1), none, some (.int l3), none, none, none] [] w = am_run 244 6 [some (.ref l0), none, none, some (.int l3), some (.long l1), none, some (.int (nI 0))] [] w := by
  refine (bu (ls'' := [some (.ref l0), none, none, some (.int l3), none, none, none]) (st' := [.long l1]) bf244_0 bf244_1 rfl rfl).trans ?_
  refine (bu (ls'' := [some (.ref l0), none, none, some (.int l3), some (.long l1), none, none]) (st' := []) bf244_1 bf244_3 rfl rfl).trans ?_
  refine (bu (ls'' := [some (.ref l0), none, none, some (.int l3), some (.long l1), none, none]) (st' := [.int (nI 0)]) bf244_3 bf244_4 rfl rfl).trans ?_
  refine (bu (ls'' := [some (.ref l0), none, none, some (.int l3), some (.long l1), none, some (.int (nI 0))]) (st' := []) bf244_4 bf244_6 rfl rfl).trans ?_
  rfl
theorem bk244_6 {w : am_Wd} {l0 : Nat} {l3 : Int32} {l4 : Int64} {l6 : Int32} : am_run 244 6 [some (.ref l0), none, none, some (.int l3), some (.long l4), none, some (.int l6)] [] w = if (nI 12) < l6 then am_run 244 34 [some (.ref l0), none, none, some (.int l3), some (.long l4), none, none] [] w else am_run 244 13 [some (.ref l0), none, none, some (.int l3), some (.long l4), none, some (.int l6)] [] w := by
  refine (bu (ls'' := [some (.ref l0), none, none, some (.int l3), some (.long l4), none, some (.int l6)]) (st' := [.int l6]) bf244_6 bf244_8 rfl rfl).trans ?_
  refine (bu (ls'' := [some (.ref l0), none, none, some (.int l3), some (.long l4), none, some (.int l6)]) (st' := [.int (nI 12), .int l6]) bf244_8 bf244_10 rfl rfl).trans ?_
  exact bic bf244_10 rfl bf244_34 bf244_13 rfl rfl rfl
theorem bk244_34 {w : am_Wd} {l0 : Nat} {l3 : Int32} {l4 : Int64} : am_run 244 34 [some (.ref l0), none, none, some (.int l3), some (.long l4), none, none] [] w = am_run 244 37 [some (.ref l0), none, none, some (.int l3), some (.long l4), none, some (.int (nI 0))] [] w := by
  refine (bu (ls'' := [some (.ref l0), none, none, some (.int l3), some (.long l4), none, none]) (st' := [.int (nI 0)]) bf244_34 bf244_35 rfl rfl).trans ?_
  refine (bu (ls'' := [some (.ref l0), none, none, some (.int l3), some (.long l4), none, some (.int (nI 0))]) (st' := []) bf244_35 bf244_37 rfl rfl).trans ?_
  rfl
theorem bk244_13 {w : am_Wd} {l0 : Nat} {l3 : Int32} {l4 : Int64} {l6 : Int32} : am_run 244 13 [some (.ref l0), none, none, some (.int l3), some (.long l4), none, some (.int l6)] [] w = (am_kf w l0 8).bind fun _ => (am_x 201 [.ref l0, .int l3, .int l6] w).bind fun r => bct r fun v w' => am_run 244 22 [some (.ref l0), none, none, some (.int l3), none, none, some (.int l6)] (v.toList ++ [.long l4]) w' := by
  refine (bu (ls'' := [some (.ref l0), none, none, some (.int l3), none, none, some (.int l6)]) (st' := [.long l4]) bf244_13 bf244_15 rfl rfl).trans ?_
  refine (bu (ls'' := [some (.ref l0), none, none, some (.int l3), none, none, some (.int l6)]) (st' := [.ref l0, .long l4]) bf244_15 bf244_16 rfl rfl).trans ?_
  refine (bu (ls'' := [some (.ref l0), none, none, some (.int l3), none, none, some (.int l6)]) (st' := [.int l3, .ref l0, .long l4]) bf244_16 bf244_17 rfl rfl).trans ?_
  refine (bu (ls'' := [some (.ref l0), none, none, some (.int l3), none, none, some (.int l6)]) (st' := [.int l6, .int l3, .ref l0, .long l4]) bf244_17 bf244_19 rfl rfl).trans ?_
  exact bkV bf244_19 bf244_22 rfl (by decide +kernel) (Nat.le_of_ble_eq_true rfl) rfl (bhd rfl)
theorem bk244_37 {w : am_Wd} {l0 : Nat} {l3 : Int32} {l4 : Int64} {l6 : Int32} : am_run 244 37 [some (.ref l0), none, none, some (.int l3), some (.long l4), none, some (.int l6)] [] w = if (nI 4) ≤ l6 then am_run 244 63 [some (.ref l0), none, none, some (.int l3), some (.long l4), none, none] [] w else am_run 244 43 [some (.ref l0), none, none, some (.int l3), some (.long l4), none, some (.int l6)] [] w := by
  refine (bu (ls'' := [some (.ref l0), none, none, some (.int l3), some (.long l4), none, some (.int l6)]) (st' := [.int l6]) bf244_37 bf244_39 rfl rfl).trans ?_
  refine (bu (ls'' := [some (.ref l0), none, none, some (.int l3), some (.long l4), none, some (.int l6)]) (st' := [.int (nI 4), .int l6]) bf244_39 bf244_40 rfl rfl).trans ?_
  exact bic bf244_40 rfl bf244_63 bf244_43 rfl rfl rfl
theorem bk244_22 {w : am_Wd} {l0 : Nat} {l3 : Int32} {l6 : Int32} {s0 : Int32} {s1 : Int64} : am_run 244 22 [some (.ref l0), none, none, some (.int l3), none, none, some (.int l6)] [.int s0, .long s1] w = (am_x 25 [.long s1, .long (Int32.toInt64 s0)] w).bind fun r => bct r fun v w' => am_run 244 26 [some (.ref l0), none, none, some (.int l3), none, none, some (.int l6)] (v.toList ++ []) w' := by
  refine (bu (ls'' := [some (.ref l0), none, none, some (.int l3), none, none, some (.int l6)]) (st' := [.long (Int32.toInt64 s0), .long s1]) bf244_22 bf244_23 rfl rfl).trans ?_
  exact bkS bf244_23 bf244_26 rfl (by decide +kernel) (Nat.le_of_ble_eq_true rfl) rfl (bhd rfl)
theorem bk244_63 {w : am_Wd} {l0 : Nat} {l3 : Int32} {l4 : Int64} : am_run 244 63 [some (.ref l0), none, none, some (.int l3), some (.long l4), none, none] [] w = am_run 244 66 [some (.ref l0), none, none, some (.int l3), some (.long l4), none, some (.int (nI 0))] [] w := by
  refine (bu (ls'' := [some (.ref l0), none, none, some (.int l3), some (.long l4), none, none]) (st' := [.int (nI 0)]) bf244_63 bf244_64 rfl rfl).trans ?_
  refine (bu (ls'' := [some (.ref l0), none, none, some (.int l3), some (.long l4), none, some (.int (nI 0))]) (st' := []) bf244_64 bf244_66 rfl rfl).trans ?_
  rfl
theorem bk244_43 {w : am_Wd} {l0 : Nat} {l3 : Int32} {l4 : Int64} {l6 : Int32} : am_run 244 43 [some (.ref l0), none, none, some (.int l3), some (.long l4), none, some (.int l6)] [] w = (am_kf w l0 8).bind fun _ => (am_x 139 [.ref l0, .int l3, .int l6] w).bind fun r => bct r fun v w' => am_run 244 52 [some (.ref l0), none, none, some (.int l3), none, none, some (.int l6)] (v.toList ++ [.long l4]) w' := by
  refine (bu (ls'' := [some (.ref l0), none, none, some (.int l3), none, none, some (.int l6)]) (st' := [.long l4]) bf244_43 bf244_45 rfl rfl).trans ?_
  refine (bu (ls'' := [some (.ref l0), none, none, some (.int l3), none, none, some (.int l6)]) (st' := [.ref l0, .long l4]) bf244_45 bf244_46 rfl rfl).trans ?_
  refine (bu (ls'' := [some (.ref l0), none, none, some (.int l3), none, none, some (.int l6)]) (st' := [.int l3, .ref l0, .long l4]) bf244_46 bf244_47 rfl rfl).trans ?_
  refine (bu (ls'' := [some (.ref l0), none, none, some (.int l3), none, none, some (.int l6)]) (st' := [.int l6, .int l3, .ref l0, .long l4]) bf244_47 bf244_49 rfl rfl).trans ?_
  exact bkV bf244_49 bf244_52 rfl (by decide +kernel) (Nat.le_of_ble_eq_true rfl) rfl (bhd rfl)
theorem bk244_26 {w : am_Wd} {l0 : Nat} {l3 : Int32} {l6 : Int32} {s0 : Int64} : am_run 244 26 [some (.ref l0), none, none, some (.int l3), none, none, some (.int l6)] [.long s0] w = am_run 244 6 [some (.ref l0), none, none, some (.int l3), some (.long s0), none, some (.int (l6 + (nI 1)))] [] w := by
  refine (bu (ls'' := [some (.ref l0), none, none, some (.int l3), some (.long s0), none, some (.int l6)]) (st' := []) bf244_26 bf244_28 rfl rfl).trans ?_
  refine (bu (ls'' := [some (.ref l0), none, none, some (.int l3), some (.long s0), none, some (.int (l6 + (nI 1)))]) (st' := []) bf244_28 bf244_31 rfl rfl).trans ?_
  refine (bu (ls'' := [some (.ref l0), none, none, some (.int l3), some (.long s0), none, some (.int (l6 + (nI 1)))]) (st' := []) bf244_31 bf244_6 rfl rfl).trans ?_
  rfl
theorem bk244_66 {w : am_Wd} {l0 : Nat} {l3 : Int32} {l4 : Int64} {l6 : Int32} : am_run 244 66 [some (.ref l0), none, none, some (.int l3), some (.long l4), none, some (.int l6)] [] w = if (nI 3) < l6 then am_run 244 93 [some (.ref l0), none, none, some (.int l3), some (.long l4), none, none] [] w else am_run 244 72 [some (.ref l0), none, none, some (.int l3), some (.long l4), none, some (.int l6)] [] w := by
  refine (bu (ls'' := [some (.ref l0), none, none, some (.int l3), some (.long l4), none, some (.int l6)]) (st' := [.int l6]) bf244_66 bf244_68 rfl rfl).trans ?_
  refine (bu (ls'' := [some (.ref l0), none, none, some (.int l3), some (.long l4), none, some (.int l6)]) (st' := [.int (nI 3), .int l6]) bf244_68 bf244_69 rfl rfl).trans ?_
  exact bic bf244_69 rfl bf244_93 bf244_72 rfl rfl rfl
theorem bk244_52 {w : am_Wd} {l0 : Nat} {l3 : Int32} {l6 : Int32} {s0 : Int64} {s1 : Int64} : am_run 244 52 [some (.ref l0), none, none, some (.int l3), none, none, some (.int l6)] [.long s0, .long s1] w = (am_x 25 [.long s1, .long s0] w).bind fun r => bct r fun v w' => am_run 244 55 [some (.ref l0), none, none, some (.int l3), none, none, some (.int l6)] (v.toList ++ []) w' := by
  exact bkS bf244_52 bf244_55 rfl (by decide +kernel) (Nat.le_of_ble_eq_true rfl) rfl (bhd rfl)
theorem bk244_93 {w : am_Wd} {l0 : Nat} {l3 : Int32} {l4 : Int64} : am_run 244 93 [some (.ref l0), none, none, some (.int l3), some (.long l4), none, none] [] w = am_run 244 96 [some (.ref l0), none, none, some (.int l3), some (.long l4), none, some (.int (nI 0))] [] w := by
  refine (bu (ls'' := [some (.ref l0), none, none, some (.int l3), some (.long l4), none, none]) (st' := [.int (nI 0)]) bf244_93 bf244_94 rfl rfl).trans ?_
  refine (bu (ls'' := [some (.ref l0), none, none, some (.int l3), some (.long l4), none, some (.int (nI 0))]) (st' := []) bf244_94 bf244_96 rfl rfl).trans ?_
  rfl
theorem bk244_72 {w : am_Wd} {l0 : Nat} {l3 : Int32} {l4 : Int64} {l6 : Int32} : am_run 244 72 [some (.ref l0), none, none, some (.int l3), some (.long l4), none, some (.int l6)] [] w = (am_kf w l0 8).bind fun _ => (am_x 223 [.ref l0, .int l3, .int l6] w).bind fun r => bct r fun v w' => am_run 244 81 [some (.ref l0), none, none, some (.int l3), none, none, some (.int l6)] (v.toList ++ [.long l4]) w' := by
  refine (bu (ls'' := [some (.ref l0), none, none, some (.int l3), none, none, some (.int l6)]) (st' := [.long l4]) bf244_72 bf244_74 rfl rfl).trans ?_
  refine (bu (ls'' := [some (.ref l0), none, none, some (.int l3), none, none, some (.int l6)]) (st' := [.ref l0, .long l4]) bf244_74 bf244_75 rfl rfl).trans ?_
  refine (bu (ls'' := [some (.ref l0), none, none, some (.int l3), none, none, some (.int l6)]) (st' := [.int l3, .ref l0, .long l4]) bf244_75 bf244_76 rfl rfl).trans ?_
  refine (bu (ls'' := [some (.ref l0), none, none, some (.int l3), none, none, some (.int l6)]) (st' := [.int l6, .int l3, .ref l0, .long l4]) bf244_76 bf244_78 rfl rfl).trans ?_
  exact bkV bf244_78 bf244_81 rfl (by decide +kernel) (Nat.le_of_ble_eq_true rfl) rfl (bhd rfl)
theorem bk244_55 {w : am_Wd} {l0 : Nat} {l3 : Int32} {l6 : Int32} {s0 : Int64} : am_run 244 55 [some (.ref l0), none, none, some (.int l3), none, none, some (.int l6)] [.long s0] w = am_run 244 37 [some (.ref l0), none, none, some (.int l3), some (.long s0), none, some (.int (l6 + (nI 1)))] [] w := by
  refine (bu (ls'' := [some (.ref l0), none, none, some (.int l3), some (.long s0), none, some (.int l6)]) (st' := []) bf244_55 bf244_57 rfl rfl).trans ?_
  refine (bu (ls'' := [some (.ref l0), none, none, some (.int l3), some (.long s0), none, some (.int (l6 + (nI 1)))]) (st' := []) bf244_57 bf244_60 rfl rfl).trans ?_
  refine (bu (ls'' := [some (.ref l0), none, none, some (.int l3), some (.long s0), none, some (.int (l6 + (nI 1)))]) (st' := []) bf244_60 bf244_37 rfl rfl).trans ?_
  rfl
theorem bk244_96 {w : am_Wd} {l0 : Nat} {l3 : Int32} {l4 : Int64} {l6 : Int32} : am_run 244 96 [some (.ref l0), none, none, some (.int l3), some (.long l4), none, some (.int l6)] [] w = if (nI 4) ≤ l6 then am_run 244 123 [some (.ref l0), none, none, some (.int l3), some (.long l4), none, none] [] w else am_run 244 102 [some (.ref l0), none, none, some (.int l3), some (.long l4), none, some (.int l6)] [] w := by
  refine (bu (ls'' := [some (.ref l0), none, none, some (.int l3), some (.long l4), none, some (.int l6)]) (st' := [.int l6]) bf244_96 bf244_98 rfl rfl).trans ?_
  refine (bu (ls'' := [some (.ref l0), none, none, some (.int l3), some (.long l4), none, some (.int l6)]) (st' := [.int (nI 4), .int l6]) bf244_98 bf244_99 rfl rfl).trans ?_
  exact bic bf244_99 rfl bf244_123 bf244_102 rfl rfl rfl
theorem bk244_81 {w : am_Wd} {l0 : Nat} {l3 : Int32} {l6 : Int32} {s0 : Int32} {s1 : Int64} : am_run 244 81 [some (.ref l0), none, none, some (.int l3), none, none, some (.int l6)] [.int s0, .long s1] w = (am_x 25 [.long s1, .long (Int32.toInt64 s0)] w).bind fun r => bct r fun v w' => am_run 244 85 [some (.ref l0), none, none, some (.int l3), none, none, some (.int l6)] (v.toList ++ []) w' := by
  refine (bu (ls'' := [some (.ref l0), none, none, some (.int l3), none, none, some (.int l6)]) (st' := [.long (Int32.toInt64 s0), .long s1]) bf244_81 bf244_82 rfl rfl).trans ?_
  exact bkS bf244_82 bf244_85 rfl (by decide +kernel) (Nat.le_of_ble_eq_true rfl) rfl (bhd rfl)
theorem bk244_123 {w : am_Wd} {l0 : Nat} {l3 : Int32} {l4 : Int64} : am_run 244 123 [some (.ref l0), none, none, some (.int l3), some (.long l4), none, none] [] w = (am_kf w l0 8).bind fun _ => (am_x 203 [.ref l0, .int l3] w).bind fun r => bct r fun v w' => am_run 244 130 [some (.ref l0), none, none, some (.int l3), none, none, none] (v.toList ++ [.long l4]) w' := by
  refine (bu (ls'' := [some (.ref l0), none, none, some (.int l3), none, none, none]) (st' := [.long l4]) bf244_123 bf244_125 rfl rfl).trans ?_
  refine (bu (ls'' := [some (.ref l0), none, none, some (.int l3), none, none, none]) (st' := [.ref l0, .long l4]) bf244_125 bf244_126 rfl rfl).trans ?_
  refine (bu (ls'' := [some (.ref l0), none, none, some (.int l3), none, none, none]) (st' := [.int l3, .ref l0, .long l4]) bf244_126 bf244_127 rfl rfl).trans ?_
  exact bkV bf244_127 bf244_130 rfl (by decide +kernel) (Nat.le_of_ble_eq_true rfl) rfl (bhd rfl)
theorem bk244_102 {w : am_Wd} {l0 : Nat} {l3 : Int32} {l4 : Int64} {l6 : Int32} : am_run 244 102 [some (.ref l0), none, none, some (.int l3), some (.long l4), none, some (.int l6)] [] w = (am_kf w l0 8).bind fun _ => (am_x 202 [.ref l0, .int l3, .int l6] w).bind fun r => bct r fun v w' => am_run 244 111 [some (.ref l0), none, none, some (.int l3), none, none, some (.int l6)] (v.toList ++ [.long l4]) w' := by
  refine (bu (ls'' := [some (.ref l0), none, none, some (.int l3), none, none, some (.int l6)]) (st' := [.long l4]) bf244_102 bf244_104 rfl rfl).trans ?_
  refine (bu (ls'' := [some (.ref l0), none, none, some (.int l3), none, none, some (.int l6)]) (st' := [.ref l0, .long l4]) bf244_104 bf244_105 rfl rfl).trans ?_
  refine (bu (ls'' := [some (.ref l0), none, none, some (.int l3), none, none, some (.int l6)]) (st' := [.int l3, .ref l0, .long l4]) bf244_105 bf244_106 rfl rfl).trans ?_
  refine (bu (ls'' := [some (.ref l0), none, none, some (.int l3), none, none, some (.int l6)]) (st' := [.int l6, .int l3, .ref l0, .long l4]) bf244_106 bf244_108 rfl rfl).trans ?_
  exact bkV bf244_108 bf244_111 rfl (by decide +kernel) (Nat.le_of_ble_eq_true rfl) rfl (bhd rfl)
theorem bk244_85 {w : am_Wd} {l0 : Nat} {l3 : Int32} {l6 : Int32} {s0 : Int64} : am_run 244 85 [some (.ref l0), none, none, some (.int l3), none, none, some (.int l6)] [.long s0] w = am_run 244 66 [some (.ref l0), none, none, some (.int l3), some (.long s0), none, some (.int (l6 + (nI 1)))] [] w := by
  refine (bu (ls'' := [some (.ref l0), none, none, some (.int l3), some (.long s0), none, some (.int l6)]) (st' := []) bf244_85 bf244_87 rfl rfl).trans ?_
  refine (bu (ls'' := [some (.ref l0), none, none, some (.int l3), some (.long s0), none, some (.int (l6 + (nI 1)))]) (st' := []) bf244_87 bf244_90 rfl rfl).trans ?_
  refine (bu (ls'' := [some (.ref l0), none, none, some (.int l3), some (.long s0), none, some (.int (l6 + (nI 1)))]) (st' := []) bf244_90 bf244_66 rfl rfl).trans ?_
  rfl
theorem bk244_130 {w : am_Wd} {l0 : Nat} {l3 : Int32} {s0 : Int32} {s1 : Int64} : am_run 244 130 [some (.ref l0), none, none, some (.int l3), none, none, none] [.int s0, .long s1] w = (am_x 25 [.long s1, .long (Int32.toInt64 s0)] w).bind fun r => bct r fun v w' => am_run 244 134 [some (.ref l0), none, none, some (.int l3), none, none, none] (v.toList ++ []) w' := by
  refine (bu (ls'' := [some (.ref l0), none, none, some (.int l3), none, none, none]) (st' := [.long (Int32.toInt64 s0), .long s1]) bf244_130 bf244_131 rfl rfl).trans ?_
  exact bkS bf244_131 bf244_134 rfl (by decide +kernel) (Nat.le_of_ble_eq_true rfl) rfl (bhd rfl)
theorem bk244_111 {w : am_Wd} {l0 : Nat} {l3 : Int32} {l6 : Int32} {s0 : Int32} {s1 : Int64} : am_run 244 111 [some (.ref l0), none, none, some (.int l3), none, none, some (.int l6)] [.int s0, .long s1] w = (am_x 25 [.long s1, .long (Int32.toInt64 s0)] w).bind fun r => bct r fun v w' => am_run 244 115 [some (.ref l0), none, none, some (.int l3), none, none, some (.int l6)] (v.toList ++ []) w' := by
  refine (bu (ls'' := [some (.ref l0), none, none, some (.int l3), none, none, some (.int l6)]) (st' := [.long (Int32.toInt64 s0), .long s1]) bf244_111 bf244_112 rfl rfl).trans ?_
  exact bkS bf244_112 bf244_115 rfl (by decide +kernel) (Nat.le_of_ble_eq_true rfl) rfl (bhd rfl)
theorem bk244_134 {w : am_Wd} {l0 : Nat} {l3 : Int32} {s0 : Int64} : am_run 244 134 [some (.ref l0), none, none, some (.int l3), none, none, none] [.long s0] w = (am_kf w l0 8).bind fun _ => (am_x 91 [.ref l0, .int l3] w).bind fun r => bct r fun v w' => am_run 244 146 [some (.ref l0), none, none, some (.int l3), none, none, none] (v.toList ++ [.double (4634204016564240384 : UInt64), .long s0]) w' := by
  refine (bu (ls'' := [some (.ref l0), none, none, some (.int l3), some (.long s0), none, none]) (st' := []) bf244_134 bf244_136 rfl rfl).trans ?_
  refine (bu (ls'' := [some (.ref l0), none, none, some (.int l3), none, none, none]) (st' := [.long s0]) bf244_136 bf244_138 rfl rfl).trans ?_
  refine (bu (ls'' := [some (.ref l0), none, none, some (.int l3), none, none, none]) (st' := [.double (4634204016564240384 : UInt64), .long s0]) bf244_138 bf244_141 rfl rfl).trans ?_
  refine (bu (ls'' := [some (.ref l0), none, none, some (.int l3), none, none, none]) (st' := [.ref l0, .double (4634204016564240384 : UInt64), .long s0]) bf244_141 bf244_142 rfl rfl).trans ?_
  refine (bu (ls'' := [some (.ref l0), none, none, some (.int l3), none, none, none]) (st' := [.int l3, .ref l0, .double (4634204016564240384 : UInt64), .long s0]) bf244_142 bf244_143 rfl rfl).trans ?_
  exact bkV bf244_143 bf244_146 rfl (by decide +kernel) (Nat.le_of_ble_eq_true rfl) rfl (bhd rfl)
theorem bk244_115 {w : am_Wd} {l0 : Nat} {l3 : Int32} {l6 : Int32} {s0 : Int64} : am_run 244 115 [some (.ref l0), none, none, some (.int l3), none, none, some (.int l6)] [.long s0] w = am_run 244 96 [some (.ref l0), none, none, some (.int l3), some (.long s0), none, some (.int (l6 + (nI 1)))] [] w := by
  refine (bu (ls'' := [some (.ref l0), none, none, some (.int l3), some (.long s0), none, some (.int l6)]) (st' := []) bf244_115 bf244_117 rfl rfl).trans ?_
  refine (bu (ls'' := [some (.ref l0), none, none, some (.int l3), some (.long s0), none, some (.int (l6 + (nI 1)))]) (st' := []) bf244_117 bf244_120 rfl rfl).trans ?_
  refine (bu (ls'' := [some (.ref l0), none, none, some (.int l3), some (.long s0), none, some (.int (l6 + (nI 1)))]) (st' := []) bf244_120 bf244_96 rfl rfl).trans ?_
  rfl
theorem bk244_146 {w : am_Wd} {l0 : Nat} {l3 : Int32} {s0 : UInt64} {s1 : UInt64} {s2 : Int64} (hn : (FP.dmul s1 s0) &&& 0x7fffffffffffffff ≤ 0x7ff0000000000000) : am_run 244 146 [some (.ref l0), none, none, some (.int l3), none, none, none] [.double s0, .double s1, .long s2] w = am_run 244 147 [some (.ref l0), none, none, some (.int l3), none, none, none] [.double (FP.dmul s1 s0), .long s2] w := by
  exact bdd (h := inferInstance) bf244_146 bf244_147 (fun h => by unfold am_stp; exact if_pos h) rfl hn
theorem bk244_147 {w : am_Wd} {l0 : Nat} {l3 : Int32} {s0 : UInt64} {s1 : Int64} : am_run 244 147 [some (.ref l0), none, none, some (.int l3), none, none, none] [.double s0, .long s1] w = (am_x 25 [.long s1, .long (FP.d2l s0)] w).bind fun r => bct r fun v w' => am_run 244 151 [some (.ref l0), none, none, some (.int l3), none, none, none] (v.toList ++ []) w' := by
  refine (bu (ls'' := [some (.ref l0), none, none, some (.int l3), none, none, none]) (st' := [.long (FP.d2l s0), .long s1]) bf244_147 bf244_148 rfl rfl).trans ?_
  exact bkS bf244_148 bf244_151 rfl (by decide +kernel) (Nat.le_of_ble_eq_true rfl) rfl (bhd rfl)
theorem bk244_151 {w : am_Wd} {l0 : Nat} {l3 : Int32} {s0 : Int64} : am_run 244 151 [some (.ref l0), none, none, some (.int l3), none, none, none] [.long s0] w = am_run 244 156 [some (.ref l0), none, none, some (.int l3), some (.long s0), none, some (.int (nI 0))] [] w := by
  refine (bu (ls'' := [some (.ref l0), none, none, some (.int l3), some (.long s0), none, none]) (st' := []) bf244_151 bf244_153 rfl rfl).trans ?_
  refine (bu (ls'' := [some (.ref l0), none, none, some (.int l3), some (.long s0), none, none]) (st' := [.int (nI 0)]) bf244_153 bf244_154 rfl rfl).trans ?_
  refine (bu (ls'' := [some (.ref l0), none, none, some (.int l3), some (.long s0), none, some (.int (nI 0))]) (st' := []) bf244_154 bf244_156 rfl rfl).trans ?_
  rfl
theorem bk244_156 {w : am_Wd} {l0 : Nat} {l3 : Int32} {l4 : Int64} {l6 : Int32} : am_run 244 156 [some (.ref l0), none, none, some (.int l3), some (.long l4), none, some (.int l6)] [] w = if (nI 36) ≤ l6 then am_run 244 201 [none, none, none, none, some (.long l4), none, none] [] w else am_run 244 163 [some (.ref l0), none, none, some (.int l3), some (.long l4), none, some (.int l6)] [] w := by
  refine (bu (ls'' := [some (.ref l0), none, none, some (.int l3), some (.long l4), none, some (.int l6)]) (st' := [.int l6]) bf244_156 bf244_158 rfl rfl).trans ?_
  refine (bu (ls'' := [some (.ref l0), none, none, some (.int l3), some (.long l4), none, some (.int l6)]) (st' := [.int (nI 36), .int l6]) bf244_158 bf244_160 rfl rfl).trans ?_
  exact bic bf244_160 rfl bf244_201 bf244_163 rfl rfl rfl
theorem bk244_201 {w : am_Wd} {l4 : Int64} : am_run 244 201 [none, none, none, none, some (.long l4), none, none] [] w = some (.inl (some (.long l4)), w) := by
  refine (bu (ls'' := [none, none, none, none, none, none, none]) (st' := [.long l4]) bf244_201 bf244_203 rfl rfl).trans ?_
  exact am_e2 bf244_203 rfl (am_ge_rf w)
theorem bk244_163 {w : am_Wd} {l0 : Nat} {l3 : Int32} {l4 : Int64} {l6 : Int32} : am_run 244 163 [some (.ref l0), none, none, some (.int l3), some (.long l4), none, some (.int l6)] [] w = (am_kf w l0 8).bind fun _ => (am_x 137 [.ref l0, .int l3, .int l6, .int (nI 1)] w).bind fun r => bct r fun v w' => am_run 244 173 [some (.ref l0), none, none, some (.int l3), none, none, some (.int l6)] (v.toList ++ [.long l4]) w' := by
  refine (bu (ls'' := [some (.ref l0), none, none, some (.int l3), none, none, some (.int l6)]) (st' := [.long l4]) bf244_163 bf244_165 rfl rfl).trans ?_
  refine (bu (ls'' := [some (.ref l0), none, none, some (.int l3), none, none, some (.int l6)]) (st' := [.ref l0, .long l4]) bf244_165 bf244_166 rfl rfl).trans ?_
  refine (bu (ls'' := [some (.ref l0), none, none, some (.int l3), none, none, some (.int l6)]) (st' := [.int l3, .ref l0, .long l4]) bf244_166 bf244_167 rfl rfl).trans ?_
  refine (bu (ls'' := [some (.ref l0), none, none, some (.int l3), none, none, some (.int l6)]) (st' := [.int l6, .int l3, .ref l0, .long l4]) bf244_167 bf244_169 rfl rfl).trans ?_
  refine (bu (ls'' := [some (.ref l0), none, none, some (.int l3), none, none, some (.int l6)]) (st' := [.int (nI 1), .int l6, .int l3, .ref l0, .long l4]) bf244_169 bf244_170 rfl rfl).trans ?_
  exact bkV bf244_170 bf244_173 rfl (by decide +kernel) (Nat.le_of_ble_eq_true rfl) rfl (bhd rfl)
theorem bk244_173 {w : am_Wd} {l0 : Nat} {l3 : Int32} {l6 : Int32} {s0 : Int32} {s1 : Int64} : am_run 244 173 [some (.ref l0), none, none, some (.int l3), none, none, some (.int l6)] [.int s0, .long s1] w = (am_x 25 [.long s1, .long (Int32.toInt64 s0)] w).bind fun r => bct r fun v w' => am_run 244 177 [some (.ref l0), none, none, some (.int l3), none, none, some (.int l6)] (v.toList ++ []) w' := by
  refine (bu (ls'' := [some (.ref l0), none, none, some (.int l3), none, none, some (.int l6)]) (st' := [.long (Int32.toInt64 s0), .long s1]) bf244_173 bf244_174 rfl rfl).trans ?_
  exact bkS bf244_174 bf244_177 rfl (by decide +kernel) (Nat.le_of_ble_eq_true rfl) rfl (bhd rfl)
theorem bk244_177 {w : am_Wd} {l0 : Nat} {l3 : Int32} {l6 : Int32} {s0 : Int64} : am_run 244 177 [some (.ref l0), none, none, some (.int l3), none, none, some (.int l6)] [.long s0] w = (am_kf w l0 8).bind fun _ => (am_x 137 [.ref l0, .int l3, .int l6, .int (nI 2)] w).bind fun r => bct r fun v w' => am_run 244 189 [some (.ref l0), none, none, some (.int l3), none, none, some (.int l6)] (v.toList ++ [.long s0]) w' := by
  refine (bu (ls'' := [some (.ref l0), none, none, some (.int l3), some (.long s0), none, some (.int l6)]) (st' := []) bf244_177 bf244_179 rfl rfl).trans ?_
  refine (bu (ls'' := [some (.ref l0), none, none, some (.int l3), none, none, some (.int l6)]) (st' := [.long s0]) bf244_179 bf244_181 rfl rfl).trans ?_
  refine (bu (ls'' := [some (.ref l0), none, none, some (.int l3), none, none, some (.int l6)]) (st' := [.ref l0, .long s0]) bf244_181 bf244_182 rfl rfl).trans ?_
  refine (bu (ls'' := [some (.ref l0), none, none, some (.int l3), none, none, some (.int l6)]) (st' := [.int l3, .ref l0, .long s0]) bf244_182 bf244_183 rfl rfl).trans ?_
  refine (bu (ls'' := [some (.ref l0), none, none, some (.int l3), none, none, some (.int l6)]) (st' := [.int l6, .int l3, .ref l0, .long s0]) bf244_183 bf244_185 rfl rfl).trans ?_
  refine (bu (ls'' := [some (.ref l0), none, none, some (.int l3), none, none, some (.int l6)]) (st' := [.int (nI 2), .int l6, .int l3, .ref l0, .long s0]) bf244_185 bf244_186 rfl rfl).trans ?_
  exact bkV bf244_186 bf244_189 rfl (by decide +kernel) (Nat.le_of_ble_eq_true rfl) rfl (bhd rfl)
theorem bk244_189 {w : am_Wd} {l0 : Nat} {l3 : Int32} {l6 : Int32} {s0 : Int32} {s1 : Int64} : am_run 244 189 [some (.ref l0), none, none, some (.int l3), none, none, some (.int l6)] [.int s0, .long s1] w = (am_x 25 [.long s1, .long (Int32.toInt64 s0)] w).bind fun r => bct r fun v w' => am_run 244 193 [some (.ref l0), none, none, some (.int l3), none, none, some (.int l6)] (v.toList ++ []) w' := by
  refine (bu (ls'' := [some (.ref l0), none, none, some (.int l3), none, none, some (.int l6)]) (st' := [.long (Int32.toInt64 s0), .long s1]) bf244_189 bf244_190 rfl rfl).trans ?_
  exact bkS bf244_190 bf244_193 rfl (by decide +kernel) (Nat.le_of_ble_eq_true rfl) rfl (bhd rfl)
theorem bk244_193 {w : am_Wd} {l0 : Nat} {l3 : Int32} {l6 : Int32} {s0 : Int64} : am_run 244 193 [some (.ref l0), none, none, some (.int l3), none, none, some (.int l6)] [.long s0] w = am_run 244 156 [some (.ref l0), none, none, some (.int l3), some (.long s0), none, some (.int (l6 + (nI 1)))] [] w := by
  refine (bu (ls'' := [some (.ref l0), none, none, some (.int l3), some (.long s0), none, some (.int l6)]) (st' := []) bf244_193 bf244_195 rfl rfl).trans ?_
  refine (bu (ls'' := [some (.ref l0), none, none, some (.int l3), some (.long s0), none, some (.int (l6 + (nI 1)))]) (st' := []) bf244_195 bf244_198 rfl rfl).trans ?_
  refine (bu (ls'' := [some (.ref l0), none, none, some (.int l3), some (.long s0), none, some (.int (l6 + (nI 1)))]) (st' := []) bf244_198 bf244_156 rfl rfl).trans ?_
  rfl
theorem bf250_0 : am_fetch (am_mth 250) 0 = some (.ldc2_w 293, 3, [0, 58286, 459], [1, 2, 3, 4]) := by decide +kernel
theorem bf250_3 : am_fetch (am_mth 250) 3 = some (.lstore_n 1, 1, [], [1, 2, 3, 4]) := by decide +kernel
theorem bf250_4 : am_fetch (am_mth 250) 4 = some (.iconst 0, 1, [], [2, 3, 4]) := by decide +kernel
theorem bf250_5 : am_fetch (am_mth 250) 5 = some (.istore_n 3, 1, [], [2, 3, 4]) := by decide +kernel
theorem bf250_6 : am_fetch (am_mth 250) 6 = some (.iload_n 3, 1, [], [2, 4]) := by decide +kernel
theorem bf250_7 : am_fetch (am_mth 250) 7 = some (.bipush 11, 2, [], [2, 4]) := by decide +kernel
theorem bf250_9 : am_fetch (am_mth 250) 9 = some (.if_icmp .gt 20, 3, [], [2, 4]) := by decide +kernel
theorem bf250_12 : am_fetch (am_mth 250) 12 = some (.lload_n 1, 1, [], [2, 4]) := by decide +kernel
theorem bf250_13 : am_fetch (am_mth 250) 13 = some (.aload_n 0, 1, [], [1, 2, 4]) := by decide +kernel
theorem bf250_14 : am_fetch (am_mth 250) 14 = some (.iload_n 3, 1, [], [1, 2, 4]) := by decide +kernel
theorem bf250_15 : am_fetch (am_mth 250) 15 = some (.invokevirtual 295, 3, [0, 136, 1, 8, 460, 397, 398, 17], [1, 2, 4]) := by decide +kernel
theorem bf250_18 : am_fetch (am_mth 250) 18 = some (.i2l, 1, [], [1, 2, 4]) := by decide +kernel
theorem bf250_19 : am_fetch (am_mth 250) 19 = some (.invokestatic 298, 3, [0, 25, 2, 461, 462, 17], [1, 2, 4]) := by decide +kernel
theorem bf250_22 : am_fetch (am_mth 250) 22 = some (.lstore_n 1, 1, [], [1, 2, 4]) := by decide +kernel
theorem bf250_23 : am_fetch (am_mth 250) 23 = some (.iinc 3 1, 3, [], [2, 4]) := by decide +kernel
theorem bf250_26 : am_fetch (am_mth 250) 26 = some (.goto (-20), 3, [], [2, 4]) := by decide +kernel
theorem bf250_29 : am_fetch (am_mth 250) 29 = some (.iconst 0, 1, [], [2, 3, 4]) := by decide +kernel
theorem bf250_30 : am_fetch (am_mth 250) 30 = some (.istore_n 3, 1, [], [2, 3, 4]) := by decide +kernel
theorem bf250_31 : am_fetch (am_mth 250) 31 = some (.iload_n 3, 1, [], [2, 4]) := by decide +kernel
theorem bf250_32 : am_fetch (am_mth 250) 32 = some (.bipush 36, 2, [], [2, 4]) := by decide +kernel
theorem bf250_34 : am_fetch (am_mth 250) 34 = some (.if_icmp .ge 52, 3, [], [2, 4]) := by decide +kernel
theorem bf250_37 : am_fetch (am_mth 250) 37 = some (.iconst 1, 1, [], [2, 4]) := by decide +kernel
theorem bf250_38 : am_fetch (am_mth 250) 38 = some (.istore 4, 2, [], [2, 4]) := by decide +kernel
theorem bf250_40 : am_fetch (am_mth 250) 40 = some (.iload 4, 2, [], [2]) := by decide +kernel
theorem bf250_42 : am_fetch (am_mth 250) 42 = some (.iconst 2, 1, [], [2]) := by decide +kernel
theorem bf250_43 : am_fetch (am_mth 250) 43 = some (.if_icmp .gt 37, 3, [], [2]) := by decide +kernel
theorem bf250_46 : am_fetch (am_mth 250) 46 = some (.lload_n 1, 1, [], [2]) := by decide +kernel
theorem bf250_47 : am_fetch (am_mth 250) 47 = some (.aload_n 0, 1, [], [1, 2]) := by decide +kernel
theorem bf250_48 : am_fetch (am_mth 250) 48 = some (.iload_n 3, 1, [], [1, 2]) := by decide +kernel
theorem bf250_49 : am_fetch (am_mth 250) 49 = some (.iload 4, 2, [], [1, 2]) := by decide +kernel
theorem bf250_51 : am_fetch (am_mth 250) 51 = some (.iconst 0, 1, [], [1, 2]) := by decide +kernel
theorem bf250_52 : am_fetch (am_mth 250) 52 = some (.invokevirtual 302, 3, [0, 169, 3, 8, 465, 466, 467, 17], [1, 2]) := by decide +kernel
theorem bf250_55 : am_fetch (am_mth 250) 55 = some (.i2l, 1, [], [1, 2]) := by decide +kernel
theorem bf250_56 : am_fetch (am_mth 250) 56 = some (.invokestatic 298, 3, [0, 25, 2, 461, 462, 17], [1, 2]) := by decide +kernel
theorem bf250_59 : am_fetch (am_mth 250) 59 = some (.lstore_n 1, 1, [], [1, 2]) := by decide +kernel
theorem bf250_60 : am_fetch (am_mth 250) 60 = some (.lload_n 1, 1, [], [2]) := by decide +kernel
theorem bf250_61 : am_fetch (am_mth 250) 61 = some (.aload_n 0, 1, [], [1, 2]) := by decide +kernel
theorem bf250_62 : am_fetch (am_mth 250) 62 = some (.iload_n 3, 1, [], [1, 2]) := by decide +kernel
theorem bf250_63 : am_fetch (am_mth 250) 63 = some (.iload 4, 2, [], [1, 2]) := by decide +kernel
theorem bf250_65 : am_fetch (am_mth 250) 65 = some (.iconst 1, 1, [], [1, 2]) := by decide +kernel
theorem bf250_66 : am_fetch (am_mth 250) 66 = some (.invokevirtual 302, 3, [0, 169, 3, 8, 465, 466, 467, 17], [1, 2]) := by decide +kernel
theorem bf250_69 : am_fetch (am_mth 250) 69 = some (.i2l, 1, [], [1, 2]) := by decide +kernel
theorem bf250_70 : am_fetch (am_mth 250) 70 = some (.invokestatic 298, 3, [0, 25, 2, 461, 462, 17], [1, 2]) := by decide +kernel
theorem bf250_73 : am_fetch (am_mth 250) 73 = some (.lstore_n 1, 1, [], [1, 2]) := by decide +kernel
theorem bf250_74 : am_fetch (am_mth 250) 74 = some (.iinc 4 1, 3, [], [2]) := by decide +kernel
theorem bf250_77 : am_fetch (am_mth 250) 77 = some (.goto (-37), 3, [], [2]) := by decide +kernel
theorem bf250_80 : am_fetch (am_mth 250) 80 = some (.iinc 3 1, 3, [], [2, 4]) := by decide +kernel
theorem bf250_83 : am_fetch (am_mth 250) 83 = some (.goto (-52), 3, [], [2, 4]) := by decide +kernel
theorem bf250_86 : am_fetch (am_mth 250) 86 = some (.iconst 0, 1, [], [2, 3, 4]) := by decide +kernel
theorem bf250_87 : am_fetch (am_mth 250) 87 = some (.istore_n 3, 1, [], [2, 3, 4]) := by decide +kernel
theorem bf250_88 : am_fetch (am_mth 250) 88 = some (.iload_n 3, 1, [], [2, 4]) := by decide +kernel
theorem bf250_89 : am_fetch (am_mth 250) 89 = some (.aload_n 0, 1, [], [2, 4]) := by decide +kernel
theorem bf250_90 : am_fetch (am_mth 250) 90 = some (.getfield 76, 3, [0, 8, 2, 65], [2, 4]) := by decide +kernel
theorem bf250_93 : am_fetch (am_mth 250) 93 = some (.if_icmp .ge 16, 3, [], [2, 4]) := by decide +kernel
theorem bf250_96 : am_fetch (am_mth 250) 96 = some (.aload_n 0, 1, [], [2, 4]) := by decide +kernel
theorem bf250_97 : am_fetch (am_mth 250) 97 = some (.lload_n 1, 1, [], [2, 4]) := by decide +kernel
theorem bf250_98 : am_fetch (am_mth 250) 98 = some (.iload_n 3, 1, [], [1, 2, 4]) := by decide +kernel
theorem bf250_99 : am_fetch (am_mth 250) 99 = some (.invokevirtual 305, 3, [0, 244, 2, 8, 483, 485, 6, 17], [1, 2, 4]) := by decide +kernel
theorem bf250_102 : am_fetch (am_mth 250) 102 = some (.lstore_n 1, 1, [], [1, 2, 4]) := by decide +kernel
theorem bf250_103 : am_fetch (am_mth 250) 103 = some (.iinc 3 1, 3, [], [2, 4]) := by decide +kernel
theorem bf250_106 : am_fetch (am_mth 250) 106 = some (.goto (-18), 3, [], [2, 4]) := by decide +kernel
theorem bf250_109 : am_fetch (am_mth 250) 109 = some (.lload_n 1, 1, [], [2, 3, 4]) := by decide +kernel
theorem bf250_110 : am_fetch (am_mth 250) 110 = some (.aload_n 0, 1, [], [1, 2, 3, 4]) := by decide +kernel
theorem bf250_111 : am_fetch (am_mth 250) 111 = some (.invokevirtual 309, 3, [0, 224, 0, 8, 551, 552, 553, 17], [0, 1, 2, 3, 4]) := by decide +kernel
theorem bf250_114 : am_fetch (am_mth 250) 114 = some (.invokestatic 200, 3, [0, 26, 1, 478, 371, 17], [0, 1, 2, 3, 4]) := by decide +kernel
theorem bf250_117 : am_fetch (am_mth 250) 117 = some (.i2l, 1, [], [0, 1, 2, 3, 4]) := by decide +kernel
theorem bf250_118 : am_fetch (am_mth 250) 118 = some (.invokestatic 298, 3, [0, 25, 2, 461, 462, 17], [0, 1, 2, 3, 4]) := by decide +kernel
theorem bf250_121 : am_fetch (am_mth 250) 121 = some (.lreturn, 1, [], [0, 1, 2, 3, 4]) := by decide +kernel
theorem bk250_0 {w : am_Wd} {l0 : Nat} : am_run 250 0 [some (.ref l0), none, none, none, none] [] w = am_run 250 6 [some (.ref l0), some (.long (lN 58286)), none, some (.int (nI 0)), none] [] w := by
  refine (bu (ls'' := [some (.ref l0), none, none, none, none]) (st' := [.long (lN 58286)]) bf250_0 bf250_3 rfl rfl).trans ?_
  refine (bu (ls'' := [some (.ref l0), some (.long (lN 58286)), none, none, none]) (st' := []) bf250_3 bf250_4 rfl rfl).trans ?_
  refine (bu (ls'' := [some (.ref l0), some (.long (lN 58286)), none, none, none]) (st' := [.int (nI 0)]) bf250_4 bf250_5 rfl rfl).trans ?_
  refine (bu (ls'' := [some (.ref l0), some (.long (lN 58286)), none, some (.int (nI 0)), none]) (st' := []) bf250_5 bf250_6 rfl rfl).trans ?_
  rfl
theorem bk250_6 {w : am_Wd} {l0 : Nat} {l1 : Int64} {l3 : Int32} : am_run 250 6 [some (.ref l0), some (.long l1), none, some (.int l3), none] [] w = if (nI 11) < l3 then am_run 250 29 [some (.ref l0), some (.long l1), none, none, none] [] w else am_run 250 12 [some (.ref l0), some (.long l1), none, some (.int l3), none] [] w := by
  refine (bu (ls'' := [some (.ref l0), some (.long l1), none, some (.int l3), none]) (st' := [.int l3]) bf250_6 bf250_7 rfl rfl).trans ?_
  refine (bu (ls'' := [some (.ref l0), some (.long l1), none, some (.int l3), none]) (st' := [.int (nI 11), .int l3]) bf250_7 bf250_9 rfl rfl).trans ?_
  exact bic bf250_9 rfl bf250_29 bf250_12 rfl rfl rfl
theorem bk250_29 {w : am_Wd} {l0 : Nat} {l1 : Int64} : am_run 250 29 [some (.ref l0), some (.long l1), none, none, none] [] w = am_run 250 31 [some (.ref l0), some (.long l1), none, some (.int (nI 0)), none] [] w := by
  refine (bu (ls'' := [some (.ref l0), some (.long l1), none, none, none]) (st' := [.int (nI 0)]) bf250_29 bf250_30 rfl rfl).trans ?_
  refine (bu (ls'' := [some (.ref l0), some (.long l1), none, some (.int (nI 0)), none]) (st' := []) bf250_30 bf250_31 rfl rfl).trans ?_
  rfl
theorem bk250_12 {w : am_Wd} {l0 : Nat} {l1 : Int64} {l3 : Int32} : am_run 250 12 [some (.ref l0), some (.long l1), none, some (.int l3), none] [] w = (am_kf w l0 8).bind fun _ => (am_x 136 [.ref l0, .int l3] w).bind fun r => bct r fun v w' => am_run 250 18 [some (.ref l0), none, none, some (.int l3), none] (v.toList ++ [.long l1]) w' := by
  refine (bu (ls'' := [some (.ref l0), none, none, some (.int l3), none]) (st' := [.long l1]) bf250_12 bf250_13 rfl rfl).trans ?_
  refine (bu (ls'' := [some (.ref l0), none, none, some (.int l3), none]) (st' := [.ref l0, .long l1]) bf250_13 bf250_14 rfl rfl).trans ?_
  refine (bu (ls'' := [some (.ref l0), none, none, some (.int l3), none]) (st' := [.int l3, .ref l0, .long l1]) bf250_14 bf250_15 rfl rfl).trans ?_
  exact bkV bf250_15 bf250_18 rfl (by decide +kernel) (Nat.le_of_ble_eq_true rfl) rfl (bhd rfl)
theorem bk250_31 {w : am_Wd} {l0 : Nat} {l1 : Int64} {l3 : Int32} : am_run 250 31 [some (.ref l0), some (.long l1), none, some (.int l3), none] [] w = if (nI 36) ≤ l3 then am_run 250 86 [some (.ref l0), some (.long l1), none, none, none] [] w else am_run 250 37 [some (.ref l0), some (.long l1), none, some (.int l3), none] [] w := by
  refine (bu (ls'' := [some (.ref l0), some (.long l1), none, some (.int l3), none]) (st' := [.int l3]) bf250_31 bf250_32 rfl rfl).trans ?_
  refine (bu (ls'' := [some (.ref l0), some (.long l1), none, some (.int l3), none]) (st' := [.int (nI 36), .int l3]) bf250_32 bf250_34 rfl rfl).trans ?_
  exact bic bf250_34 rfl bf250_86 bf250_37 rfl rfl rfl
theorem bk250_18 {w : am_Wd} {l0 : Nat} {l3 : Int32} {s0 : Int32} {s1 : Int64} : am_run 250 18 [some (.ref l0), none, none, some (.int l3), none] [.int s0, .long s1] w = (am_x 25 [.long s1, .long (Int32.toInt64 s0)] w).bind fun r => bct r fun v w' => am_run 250 22 [some (.ref l0), none, none, some (.int l3), none] (v.toList ++ []) w' := by
  refine (bu (ls'' := [some (.ref l0), none, none, some (.int l3), none]) (st' := [.long (Int32.toInt64 s0), .long s1]) bf250_18 bf250_19 rfl rfl).trans ?_
  exact bkS bf250_19 bf250_22 rfl (by decide +kernel) (Nat.le_of_ble_eq_true rfl) rfl (bhd rfl)
theorem bk250_86 {w : am_Wd} {l0 : Nat} {l1 : Int64} : am_run 250 86 [some (.ref l0), some (.long l1), none, none, none] [] w = am_run 250 88 [some (.ref l0), some (.long l1), none, some (.int (nI 0)), none] [] w := by
  refine (bu (ls'' := [some (.ref l0), some (.long l1), none, none, none]) (st' := [.int (nI 0)]) bf250_86 bf250_87 rfl rfl).trans ?_
  refine (bu (ls'' := [some (.ref l0), some (.long l1), none, some (.int (nI 0)), none]) (st' := []) bf250_87 bf250_88 rfl rfl).trans ?_
  rfl
theorem bk250_37 {w : am_Wd} {l0 : Nat} {l1 : Int64} {l3 : Int32} : am_run 250 37 [some (.ref l0), some (.long l1), none, some (.int l3), none] [] w = am_run 250 40 [some (.ref l0), some (.long l1), none, some (.int l3), some (.int (nI 1))] [] w := by
  refine (bu (ls'' := [some (.ref l0), some (.long l1), none, some (.int l3), none]) (st' := [.int (nI 1)]) bf250_37 bf250_38 rfl rfl).trans ?_
  refine (bu (ls'' := [some (.ref l0), some (.long l1), none, some (.int l3), some (.int (nI 1))]) (st' := []) bf250_38 bf250_40 rfl rfl).trans ?_
  rfl
theorem bk250_22 {w : am_Wd} {l0 : Nat} {l3 : Int32} {s0 : Int64} : am_run 250 22 [some (.ref l0), none, none, some (.int l3), none] [.long s0] w = am_run 250 6 [some (.ref l0), some (.long s0), none, some (.int (l3 + (nI 1))), none] [] w := by
  refine (bu (ls'' := [some (.ref l0), some (.long s0), none, some (.int l3), none]) (st' := []) bf250_22 bf250_23 rfl rfl).trans ?_
  refine (bu (ls'' := [some (.ref l0), some (.long s0), none, some (.int (l3 + (nI 1))), none]) (st' := []) bf250_23 bf250_26 rfl rfl).trans ?_
  refine (bu (ls'' := [some (.ref l0), some (.long s0), none, some (.int (l3 + (nI 1))), none]) (st' := []) bf250_26 bf250_6 rfl rfl).trans ?_
  rfl
theorem bk250_88 {w : am_Wd} {l0 : Nat} {l1 : Int64} {l3 : Int32} : am_run 250 88 [some (.ref l0), some (.long l1), none, some (.int l3), none] [] w = (am_gf w l0 8 2).bind fun v => am_run 250 93 [some (.ref l0), some (.long l1), none, some (.int l3), none] (v :: [.int l3]) w := by
  refine (bu (ls'' := [some (.ref l0), some (.long l1), none, some (.int l3), none]) (st' := [.int l3]) bf250_88 bf250_89 rfl rfl).trans ?_
  refine (bu (ls'' := [some (.ref l0), some (.long l1), none, some (.int l3), none]) (st' := [.ref l0, .int l3]) bf250_89 bf250_90 rfl rfl).trans ?_
  exact bh bf250_90 bf250_93 rfl (fun _ _ => am_ge_rf w) rfl
theorem bk250_40 {w : am_Wd} {l0 : Nat} {l1 : Int64} {l3 : Int32} {l4 : Int32} : am_run 250 40 [some (.ref l0), some (.long l1), none, some (.int l3), some (.int l4)] [] w = if (nI 2) < l4 then am_run 250 80 [some (.ref l0), some (.long l1), none, some (.int l3), none] [] w else am_run 250 46 [some (.ref l0), some (.long l1), none, some (.int l3), some (.int l4)] [] w := by
  refine (bu (ls'' := [some (.ref l0), some (.long l1), none, some (.int l3), some (.int l4)]) (st' := [.int l4]) bf250_40 bf250_42 rfl rfl).trans ?_
  refine (bu (ls'' := [some (.ref l0), some (.long l1), none, some (.int l3), some (.int l4)]) (st' := [.int (nI 2), .int l4]) bf250_42 bf250_43 rfl rfl).trans ?_
  exact bic bf250_43 rfl bf250_80 bf250_46 rfl rfl rfl
theorem bk250_93 {w : am_Wd} {l0 : Nat} {l1 : Int64} {l3 : Int32} {s0 : Int32} {s1 : Int32} : am_run 250 93 [some (.ref l0), some (.long l1), none, some (.int l3), none] [.int s0, .int s1] w = if s0 ≤ s1 then am_run 250 109 [some (.ref l0), some (.long l1), none, none, none] [] w else am_run 250 96 [some (.ref l0), some (.long l1), none, some (.int l3), none] [] w := by
  exact bic bf250_93 rfl bf250_109 bf250_96 rfl rfl rfl
theorem bk250_80 {w : am_Wd} {l0 : Nat} {l1 : Int64} {l3 : Int32} : am_run 250 80 [some (.ref l0), some (.long l1), none, some (.int l3), none] [] w = am_run 250 31 [some (.ref l0), some (.long l1), none, some (.int (l3 + (nI 1))), none] [] w := by
  refine (bu (ls'' := [some (.ref l0), some (.long l1), none, some (.int (l3 + (nI 1))), none]) (st' := []) bf250_80 bf250_83 rfl rfl).trans ?_
  refine (bu (ls'' := [some (.ref l0), some (.long l1), none, some (.int (l3 + (nI 1))), none]) (st' := []) bf250_83 bf250_31 rfl rfl).trans ?_
  rfl
theorem bk250_46 {w : am_Wd} {l0 : Nat} {l1 : Int64} {l3 : Int32} {l4 : Int32} : am_run 250 46 [some (.ref l0), some (.long l1), none, some (.int l3), some (.int l4)] [] w = (am_kf w l0 8).bind fun _ => (am_x 169 [.ref l0, .int l3, .int l4, .int (nI 0)] w).bind fun r => bct r fun v w' => am_run 250 55 [some (.ref l0), none, none, some (.int l3), some (.int l4)] (v.toList ++ [.long l1]) w' := by
  refine (bu (ls'' := [some (.ref l0), none, none, some (.int l3), some (.int l4)]) (st' := [.long l1]) bf250_46 bf250_47 rfl rfl).trans ?_
  refine (bu (ls'' := [some (.ref l0), none, none, some (.int l3), some (.int l4)]) (st' := [.ref l0, .long l1]) bf250_47 bf250_48 rfl rfl).trans ?_
  refine (bu (ls'' := [some (.ref l0), none, none, some (.int l3), some (.int l4)]) (st' := [.int l3, .ref l0, .long l1]) bf250_48 bf250_49 rfl rfl).trans ?_
  refine (bu (ls'' := [some (.ref l0), none, none, some (.int l3), some (.int l4)]) (st' := [.int l4, .int l3, .ref l0, .long l1]) bf250_49 bf250_51 rfl rfl).trans ?_
  refine (bu (ls'' := [some (.ref l0), none, none, some (.int l3), some (.int l4)]) (st' := [.int (nI 0), .int l4, .int l3, .ref l0, .long l1]) bf250_51 bf250_52 rfl rfl).trans ?_
  exact bkV bf250_52 bf250_55 rfl (by decide +kernel) (Nat.le_of_ble_eq_true rfl) rfl (bhd rfl)
theorem bk250_109 {w : am_Wd} {l0 : Nat} {l1 : Int64} : am_run 250 109 [some (.ref l0), some (.long l1), none, none, none] [] w = (am_kf w l0 8).bind fun _ => (am_x 224 [.ref l0] w).bind fun r => bct r fun v w' => am_run 250 114 [none, none, none, none, none] (v.toList ++ [.long l1]) w' := by
  refine (bu (ls'' := [some (.ref l0), none, none, none, none]) (st' := [.long l1]) bf250_109 bf250_110 rfl rfl).trans ?_
  refine (bu (ls'' := [none, none, none, none, none]) (st' := [.ref l0, .long l1]) bf250_110 bf250_111 rfl rfl).trans ?_
  exact bkV bf250_111 bf250_114 rfl (by decide +kernel) (Nat.le_of_ble_eq_true rfl) rfl (bhd rfl)
theorem bk250_96 {w : am_Wd} {l0 : Nat} {l1 : Int64} {l3 : Int32} : am_run 250 96 [some (.ref l0), some (.long l1), none, some (.int l3), none] [] w = (am_kf w l0 8).bind fun _ => (am_x 244 [.ref l0, .long l1, .int l3] w).bind fun r => bct r fun v w' => am_run 250 102 [some (.ref l0), none, none, some (.int l3), none] (v.toList ++ []) w' := by
  refine (bu (ls'' := [some (.ref l0), some (.long l1), none, some (.int l3), none]) (st' := [.ref l0]) bf250_96 bf250_97 rfl rfl).trans ?_
  refine (bu (ls'' := [some (.ref l0), none, none, some (.int l3), none]) (st' := [.long l1, .ref l0]) bf250_97 bf250_98 rfl rfl).trans ?_
  refine (bu (ls'' := [some (.ref l0), none, none, some (.int l3), none]) (st' := [.int l3, .long l1, .ref l0]) bf250_98 bf250_99 rfl rfl).trans ?_
  exact bkV bf250_99 bf250_102 rfl (by decide +kernel) (Nat.le_of_ble_eq_true rfl) rfl (bhd rfl)
theorem bk250_55 {w : am_Wd} {l0 : Nat} {l3 : Int32} {l4 : Int32} {s0 : Int32} {s1 : Int64} : am_run 250 55 [some (.ref l0), none, none, some (.int l3), some (.int l4)] [.int s0, .long s1] w = (am_x 25 [.long s1, .long (Int32.toInt64 s0)] w).bind fun r => bct r fun v w' => am_run 250 59 [some (.ref l0), none, none, some (.int l3), some (.int l4)] (v.toList ++ []) w' := by
  refine (bu (ls'' := [some (.ref l0), none, none, some (.int l3), some (.int l4)]) (st' := [.long (Int32.toInt64 s0), .long s1]) bf250_55 bf250_56 rfl rfl).trans ?_
  exact bkS bf250_56 bf250_59 rfl (by decide +kernel) (Nat.le_of_ble_eq_true rfl) rfl (bhd rfl)
theorem bk250_114 {w : am_Wd} {s0 : Int32} {s1 : Int64} : am_run 250 114 [none, none, none, none, none] [.int s0, .long s1] w = (am_x 26 [.int s0] w).bind fun r => bct r fun v w' => am_run 250 117 [none, none, none, none, none] (v.toList ++ [.long s1]) w' := by
  exact bkS bf250_114 bf250_117 rfl (by decide +kernel) (Nat.le_of_ble_eq_true rfl) rfl (bhd rfl)
theorem bk250_102 {w : am_Wd} {l0 : Nat} {l3 : Int32} {s0 : Int64} : am_run 250 102 [some (.ref l0), none, none, some (.int l3), none] [.long s0] w = am_run 250 88 [some (.ref l0), some (.long s0), none, some (.int (l3 + (nI 1))), none] [] w := by
  refine (bu (ls'' := [some (.ref l0), some (.long s0), none, some (.int l3), none]) (st' := []) bf250_102 bf250_103 rfl rfl).trans ?_
  refine (bu (ls'' := [some (.ref l0), some (.long s0), none, some (.int (l3 + (nI 1))), none]) (st' := []) bf250_103 bf250_106 rfl rfl).trans ?_
  refine (bu (ls'' := [some (.ref l0), some (.long s0), none, some (.int (l3 + (nI 1))), none]) (st' := []) bf250_106 bf250_88 rfl rfl).trans ?_
  rfl
theorem bk250_59 {w : am_Wd} {l0 : Nat} {l3 : Int32} {l4 : Int32} {s0 : Int64} : am_run 250 59 [some (.ref l0), none, none, some (.int l3), some (.int l4)] [.long s0] w = (am_kf w l0 8).bind fun _ => (am_x 169 [.ref l0, .int l3, .int l4, .int (nI 1)] w).bind fun r => bct r fun v w' => am_run 250 69 [some (.ref l0), none, none, some (.int l3), some (.int l4)] (v.toList ++ [.long s0]) w' := by
  refine (bu (ls'' := [some (.ref l0), some (.long s0), none, some (.int l3), some (.int l4)]) (st' := []) bf250_59 bf250_60 rfl rfl).trans ?_
  refine (bu (ls'' := [some (.ref l0), none, none, some (.int l3), some (.int l4)]) (st' := [.long s0]) bf250_60 bf250_61 rfl rfl).trans ?_
  refine (bu (ls'' := [some (.ref l0), none, none, some (.int l3), some (.int l4)]) (st' := [.ref l0, .long s0]) bf250_61 bf250_62 rfl rfl).trans ?_
  refine (bu (ls'' := [some (.ref l0), none, none, some (.int l3), some (.int l4)]) (st' := [.int l3, .ref l0, .long s0]) bf250_62 bf250_63 rfl rfl).trans ?_
  refine (bu (ls'' := [some (.ref l0), none, none, some (.int l3), some (.int l4)]) (st' := [.int l4, .int l3, .ref l0, .long s0]) bf250_63 bf250_65 rfl rfl).trans ?_
  refine (bu (ls'' := [some (.ref l0), none, none, some (.int l3), some (.int l4)]) (st' := [.int (nI 1), .int l4, .int l3, .ref l0, .long s0]) bf250_65 bf250_66 rfl rfl).trans ?_
  exact bkV bf250_66 bf250_69 rfl (by decide +kernel) (Nat.le_of_ble_eq_true rfl) rfl (bhd rfl)
theorem bk250_117 {w : am_Wd} {s0 : Int32} {s1 : Int64} : am_run 250 117 [none, none, none, none, none] [.int s0, .long s1] w = (am_x 25 [.long s1, .long (Int32.toInt64 s0)] w).bind fun r => bct r fun v w' => am_run 250 121 [none, none, none, none, none] (v.toList ++ []) w' := by
  refine (bu (ls'' := [none, none, none, none, none]) (st' := [.long (Int32.toInt64 s0), .long s1]) bf250_117 bf250_118 rfl rfl).trans ?_
  exact bkS bf250_118 bf250_121 rfl (by decide +kernel) (Nat.le_of_ble_eq_true rfl) rfl (bhd rfl)
theorem bk250_69 {w : am_Wd} {l0 : Nat} {l3 : Int32} {l4 : Int32} {s0 : Int32} {s1 : Int64} : am_run 250 69 [some (.ref l0), none, none, some (.int l3), some (.int l4)] [.int s0, .long s1] w = (am_x 25 [.long s1, .long (Int32.toInt64 s0)] w).bind fun r => bct r fun v w' => am_run 250 73 [some (.ref l0), none, none, some (.int l3), some (.int l4)] (v.toList ++ []) w' := by
  refine (bu (ls'' := [some (.ref l0), none, none, some (.int l3), some (.int l4)]) (st' := [.long (Int32.toInt64 s0), .long s1]) bf250_69 bf250_70 rfl rfl).trans ?_
  exact bkS bf250_70 bf250_73 rfl (by decide +kernel) (Nat.le_of_ble_eq_true rfl) rfl (bhd rfl)
theorem bk250_121 {w : am_Wd} {s0 : Int64} : am_run 250 121 [none, none, none, none, none] [.long s0] w = some (.inl (some (.long s0)), w) := by
  exact am_e2 bf250_121 rfl (am_ge_rf w)
theorem bk250_73 {w : am_Wd} {l0 : Nat} {l3 : Int32} {l4 : Int32} {s0 : Int64} : am_run 250 73 [some (.ref l0), none, none, some (.int l3), some (.int l4)] [.long s0] w = am_run 250 40 [some (.ref l0), some (.long s0), none, some (.int l3), some (.int (l4 + (nI 1)))] [] w := by
  refine (bu (ls'' := [some (.ref l0), some (.long s0), none, some (.int l3), some (.int l4)]) (st' := []) bf250_73 bf250_74 rfl rfl).trans ?_
  refine (bu (ls'' := [some (.ref l0), some (.long s0), none, some (.int l3), some (.int (l4 + (nI 1)))]) (st' := []) bf250_74 bf250_77 rfl rfl).trans ?_
  refine (bu (ls'' := [some (.ref l0), some (.long s0), none, some (.int l3), some (.int (l4 + (nI 1)))]) (st' := []) bf250_77 bf250_40 rfl rfl).trans ?_
  rfl
theorem bf266_0 : am_fetch (am_mth 266) 0 = some (.iload_n 0, 1, [], []) := by decide +kernel
theorem bf266_1 : am_fetch (am_mth 266) 1 = some (.ldc 7, 2, [0, 2147483647, 568], [0]) := by decide +kernel
theorem bf266_3 : am_fetch (am_mth 266) 3 = some (.iand, 1, [], [0]) := by decide +kernel
theorem bf266_4 : am_fetch (am_mth 266) 4 = some (.iload_n 1, 1, [], [0]) := by decide +kernel
theorem bf266_5 : am_fetch (am_mth 266) 5 = some (.irem, 1, [], [0, 1]) := by decide +kernel
theorem bf266_6 : am_fetch (am_mth 266) 6 = some (.ireturn, 1, [0], [0, 1]) := by decide +kernel
theorem bk266_0 {w : am_Wd} {l0 : Int32} {l1 : Int32} (hn : ¬ l1 = 0) : am_run 266 0 [some (.int l0), some (.int l1)] [] w = am_run 266 6 [none, none] [.int (bj_irem (l0 &&& (nI 2147483647)) l1)] w := by
  refine (bu (ls'' := [none, some (.int l1)]) (st' := [.int l0]) bf266_0 bf266_1 rfl rfl).trans ?_
  refine (bu (ls'' := [none, some (.int l1)]) (st' := [.int (nI 2147483647), .int l0]) bf266_1 bf266_3 rfl rfl).trans ?_
  refine (bu (ls'' := [none, some (.int l1)]) (st' := [.int (l0 &&& (nI 2147483647))]) bf266_3 bf266_4 rfl rfl).trans ?_
  refine (bu (ls'' := [none, none]) (st' := [.int l1, .int (l0 &&& (nI 2147483647))]) bf266_4 bf266_5 rfl rfl).trans ?_
  exact bdd (h := inferInstance) bf266_5 bf266_6 (fun h => by unfold am_stp; exact if_neg h) rfl hn
theorem bk266_6 {w : am_Wd} {s0 : Int32} : am_run 266 6 [none, none] [.int s0] w = some (.inl (some (.int s0)), w) := by
  exact am_e2 bf266_6 rfl (am_ge_rf w)
theorem bf267_0 : am_fetch (am_mth 267) 0 = some (.iload_n 1, 1, [], []) := by decide +kernel
theorem bf267_1 : am_fetch (am_mth 267) 1 = some (.aload_n 0, 1, [], []) := by decide +kernel
theorem bf267_2 : am_fetch (am_mth 267) 2 = some (.arraylength, 1, [], []) := by decide +kernel
theorem bf267_3 : am_fetch (am_mth 267) 3 = some (.if_icmp .ge 9, 3, [], []) := by decide +kernel
theorem bf267_6 : am_fetch (am_mth 267) 6 = some (.aload_n 0, 1, [], []) := by decide +kernel
theorem bf267_7 : am_fetch (am_mth 267) 7 = some (.iload_n 1, 1, [], [0]) := by decide +kernel
theorem bf267_8 : am_fetch (am_mth 267) 8 = some (.iaload, 1, [], [0, 1]) := by decide +kernel
theorem bf267_9 : am_fetch (am_mth 267) 9 = some (.goto 9, 3, [], [0, 1]) := by decide +kernel
theorem bf267_12 : am_fetch (am_mth 267) 12 = some (.ldc 8, 2, [0, 790386105, 572], [0]) := by decide +kernel
theorem bf267_14 : am_fetch (am_mth 267) 14 = some (.iload_n 1, 1, [], [0]) := by decide +kernel
theorem bf267_15 : am_fetch (am_mth 267) 15 = some (.iconst 3, 1, [], [0, 1]) := by decide +kernel
theorem bf267_16 : am_fetch (am_mth 267) 16 = some (.iadd, 1, [], [0, 1]) := by decide +kernel
theorem bf267_17 : am_fetch (am_mth 267) 17 = some (.imul, 1, [], [0, 1]) := by decide +kernel
theorem bf267_18 : am_fetch (am_mth 267) 18 = some (.ireturn, 1, [0], [0, 1]) := by decide +kernel
theorem bk267_0 {w : am_Wd} {l0 : Nat} {l1 : Int32} : am_run 267 0 [some (.ref l0), some (.int l1)] [] w = (am_len w l0).bind fun v => am_run 267 3 [some (.ref l0), some (.int l1)] (.int (nI v) :: [.int l1]) w := by
  refine (bu (ls'' := [some (.ref l0), some (.int l1)]) (st' := [.int l1]) bf267_0 bf267_1 rfl rfl).trans ?_
  refine (bu (ls'' := [some (.ref l0), some (.int l1)]) (st' := [.ref l0, .int l1]) bf267_1 bf267_2 rfl rfl).trans ?_
  exact bh bf267_2 bf267_3 rfl (fun _ _ => am_ge_rf w) rfl
theorem bk267_3 {w : am_Wd} {l0 : Nat} {l1 : Int32} {s0 : Int32} {s1 : Int32} : am_run 267 3 [some (.ref l0), some (.int l1)] [.int s0, .int s1] w = if s0 ≤ s1 then am_run 267 12 [none, some (.int l1)] [] w else am_run 267 6 [some (.ref l0), some (.int l1)] [] w := by
  exact bic bf267_3 rfl bf267_12 bf267_6 rfl rfl rfl
theorem bk267_12 {w : am_Wd} {l1 : Int32} : am_run 267 12 [none, some (.int l1)] [] w = am_run 267 18 [none, none] [.int ((nI 790386105) * (l1 + (nI 3)))] w := by
  refine (bu (ls'' := [none, some (.int l1)]) (st' := [.int (nI 790386105)]) bf267_12 bf267_14 rfl rfl).trans ?_
  refine (bu (ls'' := [none, none]) (st' := [.int l1, .int (nI 790386105)]) bf267_14 bf267_15 rfl rfl).trans ?_
  refine (bu (ls'' := [none, none]) (st' := [.int (nI 3), .int l1, .int (nI 790386105)]) bf267_15 bf267_16 rfl rfl).trans ?_
  refine (bu (ls'' := [none, none]) (st' := [.int (l1 + (nI 3)), .int (nI 790386105)]) bf267_16 bf267_17 rfl rfl).trans ?_
  refine (bu (ls'' := [none, none]) (st' := [.int ((nI 790386105) * (l1 + (nI 3)))]) bf267_17 bf267_18 rfl rfl).trans ?_
  rfl
theorem bk267_6 {w : am_Wd} {l0 : Nat} {l1 : Int32} : am_run 267 6 [some (.ref l0), some (.int l1)] [] w = (am_ri 0 w l0 l1).bind fun v => am_run 267 9 [none, none] (.int v :: []) w := by
  refine (bu (ls'' := [none, some (.int l1)]) (st' := [.ref l0]) bf267_6 bf267_7 rfl rfl).trans ?_
  refine (bu (ls'' := [none, none]) (st' := [.int l1, .ref l0]) bf267_7 bf267_8 rfl rfl).trans ?_
  exact bh bf267_8 bf267_9 rfl (fun _ _ => am_ge_rf w) rfl
theorem bk267_18 {w : am_Wd} {s0 : Int32} : am_run 267 18 [none, none] [.int s0] w = some (.inl (some (.int s0)), w) := by
  exact am_e2 bf267_18 rfl (am_ge_rf w)
theorem bk267_9 {w : am_Wd} {s0 : Int32} : am_run 267 9 [none, none] [.int s0] w = am_run 267 18 [none, none] [.int s0] w := by
  refine (bu (ls'' := [none, none]) (st' := [.int s0]) bf267_9 bf267_18 rfl rfl).trans ?_
  rfl
theorem bf268_0 : am_fetch (am_mth 268) 0 = some (.iload_n 2, 1, [], [5]) := by decide +kernel
theorem bf268_1 : am_fetch (am_mth 268) 1 = some (.tableswitch 161 0 6 #[43, 43, 43, 64, 107, 107, 134], 43, [], [2, 5]) := by decide +kernel
theorem bf268_44 : am_fetch (am_mth 268) 44 = some (.aload_n 0, 1, [], [2, 4, 5]) := by decide +kernel
theorem bf268_45 : am_fetch (am_mth 268) 45 = some (.iload_n 1, 1, [], [0, 2, 4, 5]) := by decide +kernel
theorem bf268_46 : am_fetch (am_mth 268) 46 = some (.iload_n 3, 1, [], [0, 1, 2, 4, 5]) := by decide +kernel
theorem bf268_47 : am_fetch (am_mth 268) 47 = some (.iconst 2, 1, [], [0, 1, 2, 3, 4, 5]) := by decide +kernel
theorem bf268_48 : am_fetch (am_mth 268) 48 = some (.invokestatic 18, 3, [0, 266, 2, 565, 566, 16], [0, 1, 2, 3, 4, 5]) := by decide +kernel
theorem bf268_51 : am_fetch (am_mth 268) 51 = some (.ifCond .ne 7, 3, [], [0, 1, 2, 3, 4, 5]) := by decide +kernel
theorem bf268_54 : am_fetch (am_mth 268) 54 = some (.iconst 1, 1, [], [0, 1, 2, 3, 4, 5]) := by decide +kernel
theorem bf268_55 : am_fetch (am_mth 268) 55 = some (.goto 4, 3, [], [0, 1, 2, 3, 4, 5]) := by decide +kernel
theorem bf268_58 : am_fetch (am_mth 268) 58 = some (.iconst 0, 1, [], [0, 1, 2, 3, 4, 5]) := by decide +kernel
theorem bf268_59 : am_fetch (am_mth 268) 59 = some (.invokevirtual 62, 3, [0, 239, 2, 8, 577, 578, 579, 17], [0, 1, 2, 3, 4, 5]) := by decide +kernel
theorem bf268_62 : am_fetch (am_mth 268) 62 = some (.pop, 1, [], [0, 1, 2, 3, 4, 5]) := by decide +kernel
theorem bf268_63 : am_fetch (am_mth 268) 63 = some (.iconst 1, 1, [], [0, 1, 2, 3, 4, 5]) := by decide +kernel
theorem bf268_64 : am_fetch (am_mth 268) 64 = some (.ireturn, 1, [1], [0, 1, 2, 3, 4, 5]) := by decide +kernel
theorem bf268_65 : am_fetch (am_mth 268) 65 = some (.aload_n 0, 1, [], [2, 5]) := by decide +kernel
theorem bf268_66 : am_fetch (am_mth 268) 66 = some (.iload_n 1, 1, [], [0, 2, 5]) := by decide +kernel
theorem bf268_67 : am_fetch (am_mth 268) 67 = some (.iload_n 3, 1, [], [0, 1, 2, 5]) := by decide +kernel
theorem bf268_68 : am_fetch (am_mth 268) 68 = some (.iconst 2, 1, [], [0, 1, 2, 3, 5]) := by decide +kernel
theorem bf268_69 : am_fetch (am_mth 268) 69 = some (.invokestatic 18, 3, [0, 266, 2, 565, 566, 16], [0, 1, 2, 3, 5]) := by decide +kernel
theorem bf268_72 : am_fetch (am_mth 268) 72 = some (.ifCond .ne 7, 3, [], [0, 1, 2, 3, 5]) := by decide +kernel
theorem bf268_75 : am_fetch (am_mth 268) 75 = some (.iconst 1, 1, [], [0, 1, 2, 3, 5]) := by decide +kernel
theorem bf268_76 : am_fetch (am_mth 268) 76 = some (.goto 4, 3, [], [0, 1, 2, 3, 5]) := by decide +kernel
theorem bf268_79 : am_fetch (am_mth 268) 79 = some (.iconst 0, 1, [], [0, 1, 2, 3, 5]) := by decide +kernel
theorem bf268_80 : am_fetch (am_mth 268) 80 = some (.iload 4, 2, [], [0, 1, 2, 3, 5]) := by decide +kernel
theorem bf268_82 : am_fetch (am_mth 268) 82 = some (.iconst 3, 1, [], [0, 1, 2, 3, 4, 5]) := by decide +kernel
theorem bf268_83 : am_fetch (am_mth 268) 83 = some (.idiv, 1, [], [0, 1, 2, 3, 4, 5]) := by decide +kernel
theorem bf268_84 : am_fetch (am_mth 268) 84 = some (.iconst 2, 1, [], [0, 1, 2, 3, 4, 5]) := by decide +kernel
theorem bf268_85 : am_fetch (am_mth 268) 85 = some (.invokestatic 18, 3, [0, 266, 2, 565, 566, 16], [0, 1, 2, 3, 4, 5]) := by decide +kernel
theorem bf268_88 : am_fetch (am_mth 268) 88 = some (.ifCond .ne 7, 3, [], [0, 1, 2, 3, 4, 5]) := by decide +kernel
theorem bf268_91 : am_fetch (am_mth 268) 91 = some (.iconst 1, 1, [], [0, 1, 2, 3, 4, 5]) := by decide +kernel
theorem bf268_92 : am_fetch (am_mth 268) 92 = some (.goto 4, 3, [], [0, 1, 2, 3, 4, 5]) := by decide +kernel
theorem bf268_95 : am_fetch (am_mth 268) 95 = some (.iconst 0, 1, [], [0, 1, 2, 3, 4, 5]) := by decide +kernel
theorem bf268_96 : am_fetch (am_mth 268) 96 = some (.invokevirtual 66, 3, [0, 240, 3, 8, 645, 646, 647, 17], [0, 1, 2, 3, 4, 5]) := by decide +kernel
theorem bf268_99 : am_fetch (am_mth 268) 99 = some (.ifCond .le 7, 3, [], [0, 1, 2, 3, 4, 5]) := by decide +kernel
theorem bf268_102 : am_fetch (am_mth 268) 102 = some (.iconst 1, 1, [], [0, 1, 2, 3, 4, 5]) := by decide +kernel
theorem bf268_103 : am_fetch (am_mth 268) 103 = some (.goto 4, 3, [], [0, 1, 2, 3, 4, 5]) := by decide +kernel
theorem bf268_106 : am_fetch (am_mth 268) 106 = some (.iconst 0, 1, [], [0, 1, 2, 3, 4, 5]) := by decide +kernel
theorem bf268_107 : am_fetch (am_mth 268) 107 = some (.ireturn, 1, [1], [0, 1, 2, 3, 4, 5]) := by decide +kernel
theorem bf268_108 : am_fetch (am_mth 268) 108 = some (.aload_n 0, 1, [], [2, 4, 5]) := by decide +kernel
theorem bf268_109 : am_fetch (am_mth 268) 109 = some (.iload_n 1, 1, [], [0, 2, 4, 5]) := by decide +kernel
theorem bf268_110 : am_fetch (am_mth 268) 110 = some (.iload_n 3, 1, [], [0, 1, 2, 4, 5]) := by decide +kernel
theorem bf268_111 : am_fetch (am_mth 268) 111 = some (.iconst 2, 1, [], [0, 1, 2, 3, 4, 5]) := by decide +kernel
theorem bf268_112 : am_fetch (am_mth 268) 112 = some (.invokestatic 18, 3, [0, 266, 2, 565, 566, 16], [0, 1, 2, 3, 4, 5]) := by decide +kernel
theorem bf268_115 : am_fetch (am_mth 268) 115 = some (.ifCond .ne 7, 3, [], [0, 1, 2, 3, 4, 5]) := by decide +kernel
theorem bf268_118 : am_fetch (am_mth 268) 118 = some (.iconst 1, 1, [], [0, 1, 2, 3, 4, 5]) := by decide +kernel
theorem bf268_119 : am_fetch (am_mth 268) 119 = some (.goto 4, 3, [], [0, 1, 2, 3, 4, 5]) := by decide +kernel
theorem bf268_122 : am_fetch (am_mth 268) 122 = some (.iconst 0, 1, [], [0, 1, 2, 3, 4, 5]) := by decide +kernel
theorem bf268_123 : am_fetch (am_mth 268) 123 = some (.invokevirtual 69, 3, [0, 241, 2, 8, 662, 663, 664, 17], [0, 1, 2, 3, 4, 5]) := by decide +kernel
theorem bf268_126 : am_fetch (am_mth 268) 126 = some (.ifCond .lt 7, 3, [], [0, 1, 2, 3, 4, 5]) := by decide +kernel
theorem bf268_129 : am_fetch (am_mth 268) 129 = some (.iconst 1, 1, [], [0, 1, 2, 3, 4, 5]) := by decide +kernel
theorem bf268_130 : am_fetch (am_mth 268) 130 = some (.goto 4, 3, [], [0, 1, 2, 3, 4, 5]) := by decide +kernel
theorem bf268_133 : am_fetch (am_mth 268) 133 = some (.iconst 0, 1, [], [0, 1, 2, 3, 4, 5]) := by decide +kernel
theorem bf268_134 : am_fetch (am_mth 268) 134 = some (.ireturn, 1, [1], [0, 1, 2, 3, 4, 5]) := by decide +kernel
theorem bf268_135 : am_fetch (am_mth 268) 135 = some (.aload_n 0, 1, [], [1, 2, 4, 5]) := by decide +kernel
theorem bf268_136 : am_fetch (am_mth 268) 136 = some (.iconst 0, 1, [], [1, 2, 4, 5]) := by decide +kernel
theorem bf268_137 : am_fetch (am_mth 268) 137 = some (.invokevirtual 36, 3, [0, 136, 1, 8, 396, 397, 398, 17], [1, 2, 4, 5]) := by decide +kernel
theorem bf268_140 : am_fetch (am_mth 268) 140 = some (.sipush 2300, 3, [], [1, 2, 4, 5]) := by decide +kernel
theorem bf268_143 : am_fetch (am_mth 268) 143 = some (.if_icmp .ge 17, 3, [], [1, 2, 4, 5]) := by decide +kernel
theorem bf268_146 : am_fetch (am_mth 268) 146 = some (.aload_n 0, 1, [], [1, 2, 4, 5]) := by decide +kernel
theorem bf268_147 : am_fetch (am_mth 268) 147 = some (.iconst 1, 1, [], [0, 1, 2, 4, 5]) := by decide +kernel
theorem bf268_148 : am_fetch (am_mth 268) 148 = some (.iload_n 3, 1, [], [0, 1, 2, 4, 5]) := by decide +kernel
theorem bf268_149 : am_fetch (am_mth 268) 149 = some (.sipush 300, 3, [], [0, 1, 2, 3, 4, 5]) := by decide +kernel
theorem bf268_152 : am_fetch (am_mth 268) 152 = some (.invokestatic 18, 3, [0, 266, 2, 565, 566, 16], [0, 1, 2, 3, 4, 5]) := by decide +kernel
theorem bf268_155 : am_fetch (am_mth 268) 155 = some (.iadd, 1, [], [0, 1, 2, 3, 4, 5]) := by decide +kernel
theorem bf268_156 : am_fetch (am_mth 268) 156 = some (.invokevirtual 73, 3, [0, 135, 1, 8, 680, 681, 682, 17], [0, 1, 2, 3, 4, 5]) := by decide +kernel
theorem bf268_159 : am_fetch (am_mth 268) 159 = some (.pop, 1, [], [0, 1, 2, 3, 4, 5]) := by decide +kernel
theorem bf268_160 : am_fetch (am_mth 268) 160 = some (.iconst 0, 1, [], [0, 1, 2, 3, 4, 5]) := by decide +kernel
theorem bf268_161 : am_fetch (am_mth 268) 161 = some (.ireturn, 1, [1], [0, 1, 2, 3, 4, 5]) := by decide +kernel
theorem bf268_162 : am_fetch (am_mth 268) 162 = some (.aload_n 0, 1, [], [2, 4, 5]) := by decide +kernel
theorem bf268_163 : am_fetch (am_mth 268) 163 = some (.iload_n 1, 1, [], [0, 2, 4, 5]) := by decide +kernel
theorem bf268_164 : am_fetch (am_mth 268) 164 = some (.iload_n 3, 1, [], [0, 1, 2, 4, 5]) := by decide +kernel
theorem bf268_165 : am_fetch (am_mth 268) 165 = some (.iconst 2, 1, [], [0, 1, 2, 3, 4, 5]) := by decide +kernel
theorem bf268_166 : am_fetch (am_mth 268) 166 = some (.invokestatic 18, 3, [0, 266, 2, 565, 566, 16], [0, 1, 2, 3, 4, 5]) := by decide +kernel
theorem bf268_169 : am_fetch (am_mth 268) 169 = some (.ifCond .ne 7, 3, [], [0, 1, 2, 3, 4, 5]) := by decide +kernel
theorem bf268_172 : am_fetch (am_mth 268) 172 = some (.iconst 1, 1, [], [0, 1, 2, 3, 4, 5]) := by decide +kernel
theorem bf268_173 : am_fetch (am_mth 268) 173 = some (.goto 4, 3, [], [0, 1, 2, 3, 4, 5]) := by decide +kernel
theorem bf268_176 : am_fetch (am_mth 268) 176 = some (.iconst 0, 1, [], [0, 1, 2, 3, 4, 5]) := by decide +kernel
theorem bf268_177 : am_fetch (am_mth 268) 177 = some (.invokevirtual 76, 3, [0, 242, 2, 8, 685, 686, 687, 17], [0, 1, 2, 3, 4, 5]) := by decide +kernel
theorem bf268_180 : am_fetch (am_mth 268) 180 = some (.ifCond .lt 7, 3, [], [0, 1, 2, 3, 4, 5]) := by decide +kernel
theorem bf268_183 : am_fetch (am_mth 268) 183 = some (.iconst 1, 1, [], [0, 1, 2, 3, 4, 5]) := by decide +kernel
theorem bf268_184 : am_fetch (am_mth 268) 184 = some (.goto 4, 3, [], [0, 1, 2, 3, 4, 5]) := by decide +kernel
theorem bf268_187 : am_fetch (am_mth 268) 187 = some (.iconst 0, 1, [], [0, 1, 2, 3, 4, 5]) := by decide +kernel
theorem bf268_188 : am_fetch (am_mth 268) 188 = some (.ireturn, 1, [1], [0, 1, 2, 3, 4, 5]) := by decide +kernel
theorem bf268_189 : am_fetch (am_mth 268) 189 = some (.astore 5, 2, [], [0, 1, 2, 3, 4, 5]) := by decide +kernel
theorem bf268_191 : am_fetch (am_mth 268) 191 = some (.iconst 0, 1, [], [0, 1, 2, 3, 4, 5]) := by decide +kernel
theorem bf268_192 : am_fetch (am_mth 268) 192 = some (.ireturn, 1, [1], [0, 1, 2, 3, 4, 5]) := by decide +kernel
theorem bk268_0 {w : am_Wd} {l0 : Nat} {l1 : Int32} {l2 : Int32} {l3 : Int32} {l4 : Int32} : am_run 268 0 [some (.ref l0), some (.int l1), some (.int l2), some (.int l3), some (.int l4), none] [] w = if l2 = (nI 0) then am_run 268 44 [some (.ref l0), some (.int l1), none, some (.int l3), none, none] [] w else if l2 = (nI 1) then am_run 268 44 [some (.ref l0), some (.int l1), none, some (.int l3), none, none] [] w else if l2 = (nI 2) then am_run 268 44 [some (.ref l0), some (.int l1), none, some (.int l3), none, none] [] w else if l2 = (nI 3) then am_run 268 65 [some (.ref l0), some (.int l1), none, some (.int l3), some (.int l4), none] [] w else if l2 = (nI 4) then am_run 268 108 [some (.ref l0), some (.int l1), none, some (.int l3), none, none] [] w else if l2 = (nI 5) then am_run 268 108 [some (.ref l0), some (.int l1), none, some (.int l3), none, none] [] w else if l2 = (nI 6) then am_run 268 135 [some (.ref l0), none, none, some (.int l3), none, none] [] w else am_run 268 162 [some (.ref l0), some (.int l1), none, some (.int l3), none, none] [] w := by
  refine (bu (ls'' := [some (.ref l0), some (.int l1), none, some (.int l3), some (.int l4), none]) (st' := [.int l2]) bf268_0 bf268_1 rfl rfl).trans ?_
  refine bsw (fun q => ?_) (fun q0 => ?_)
  · exact bu (ls' := [some (.ref l0), some (.int l1), none, some (.int l3), some (.int l4), none]) (ls'' := [some (.ref l0), some (.int l1), none, some (.int l3), none, none]) (st' := []) bf268_1 bf268_44 (by rw [q]; rfl) rfl
  refine bsw (fun q => ?_) (fun q1 => ?_)
  · exact bu (ls' := [some (.ref l0), some (.int l1), none, some (.int l3), some (.int l4), none]) (ls'' := [some (.ref l0), some (.int l1), none, some (.int l3), none, none]) (st' := []) bf268_1 bf268_44 (by rw [q]; rfl) rfl
  refine bsw (fun q => ?_) (fun q2 => ?_)
  · exact bu (ls' := [some (.ref l0), some (.int l1), none, some (.int l3), some (.int l4), none]) (ls'' := [some (.ref l0), some (.int l1), none, some (.int l3), none, none]) (st' := []) bf268_1 bf268_44 (by rw [q]; rfl) rfl
  refine bsw (fun q => ?_) (fun q3 => ?_)
  · exact bu (ls' := [some (.ref l0), some (.int l1), none, some (.int l3), some (.int l4), none]) (ls'' := [some (.ref l0), some (.int l1), none, some (.int l3), some (.int l4), none]) (st' := []) bf268_1 bf268_65 (by rw [q]; rfl) rfl
  refine bsw (fun q => ?_) (fun q4 => ?_)
  · exact bu (ls' := [some (.ref l0), some (.int l1), none, some (.int l3), some (.int l4), none]) (ls'' := [some (.ref l0), some (.int l1), none, some (.int l3), none, none]) (st' := []) bf268_1 bf268_108 (by rw [q]; rfl) rfl
  refine bsw (fun q => ?_) (fun q5 => ?_)
  · exact bu (ls' := [some (.ref l0), some (.int l1), none, some (.int l3), some (.int l4), none]) (ls'' := [some (.ref l0), some (.int l1), none, some (.int l3), none, none]) (st' := []) bf268_1 bf268_108 (by rw [q]; rfl) rfl
  refine bsw (fun q => ?_) (fun q6 => ?_)
  · exact bu (ls' := [some (.ref l0), some (.int l1), none, some (.int l3), some (.int l4), none]) (ls'' := [some (.ref l0), none, none, some (.int l3), none, none]) (st' := []) bf268_1 bf268_135 (by rw [q]; rfl) rfl
  exact bsd bf268_1 bf268_162 rfl rfl (bcon (by rfl) q0 (bcon (by rfl) q1 (bcon (by rfl) q2 (bcon (by rfl) q3 (bcon (by rfl) q4 (bcon (by rfl) q5 (bcon (by rfl) q6 (bnil)))))))) rfl
theorem bk268_44 {w : am_Wd} {l0 : Nat} {l1 : Int32} {l3 : Int32} : am_run 268 44 [some (.ref l0), some (.int l1), none, some (.int l3), none, none] [] w = (am_x 266 [.int l3, .int (nI 2)] w).bind fun r => am_af 268 48 r (fun v w' => am_run 268 51 [none, none, none, none, none, none] (v.toList ++ [.int l1, .ref l0]) w') (fun h w' => am_run 268 h (am_nrm 268 h [none, none, none, none, none, none]) [] w') := by
  refine (bu (ls'' := [none, some (.int l1), none, some (.int l3), none, none]) (st' := [.ref l0]) bf268_44 bf268_45 rfl rfl).trans ?_
  refine (bu (ls'' := [none, none, none, some (.int l3), none, none]) (st' := [.int l1, .ref l0]) bf268_45 bf268_46 rfl rfl).trans ?_
  refine (bu (ls'' := [none, none, none, none, none, none]) (st' := [.int l3, .int l1, .ref l0]) bf268_46 bf268_47 rfl rfl).trans ?_
  refine (bu (ls'' := [none, none, none, none, none, none]) (st' := [.int (nI 2), .int l3, .int l1, .ref l0]) bf268_47 bf268_48 rfl rfl).trans ?_
  exact bkH bf268_48 bf268_51 rfl (by decide +kernel) (Nat.le_of_ble_eq_true rfl) rfl
theorem bk268_65 {w : am_Wd} {l0 : Nat} {l1 : Int32} {l3 : Int32} {l4 : Int32} : am_run 268 65 [some (.ref l0), some (.int l1), none, some (.int l3), some (.int l4), none] [] w = (am_x 266 [.int l3, .int (nI 2)] w).bind fun r => am_af 268 69 r (fun v w' => am_run 268 72 [none, none, none, none, some (.int l4), none] (v.toList ++ [.int l1, .ref l0]) w') (fun h w' => am_run 268 h (am_nrm 268 h [none, none, none, none, some (.int l4), none]) [] w') := by
  refine (bu (ls'' := [none, some (.int l1), none, some (.int l3), some (.int l4), none]) (st' := [.ref l0]) bf268_65 bf268_66 rfl rfl).trans ?_
  refine (bu (ls'' := [none, none, none, some (.int l3), some (.int l4), none]) (st' := [.int l1, .ref l0]) bf268_66 bf268_67 rfl rfl).trans ?_
  refine (bu (ls'' := [none, none, none, none, some (.int l4), none]) (st' := [.int l3, .int l1, .ref l0]) bf268_67 bf268_68 rfl rfl).trans ?_
  refine (bu (ls'' := [none, none, none, none, some (.int l4), none]) (st' := [.int (nI 2), .int l3, .int l1, .ref l0]) bf268_68 bf268_69 rfl rfl).trans ?_
  exact bkH bf268_69 bf268_72 rfl (by decide +kernel) (Nat.le_of_ble_eq_true rfl) rfl
theorem bk268_108 {w : am_Wd} {l0 : Nat} {l1 : Int32} {l3 : Int32} : am_run 268 108 [some (.ref l0), some (.int l1), none, some (.int l3), none, none] [] w = (am_x 266 [.int l3, .int (nI 2)] w).bind fun r => am_af 268 112 r (fun v w' => am_run 268 115 [none, none, none, none, none, none] (v.toList ++ [.int l1, .ref l0]) w') (fun h w' => am_run 268 h (am_nrm 268 h [none, none, none, none, none, none]) [] w') := by
  refine (bu (ls'' := [none, some (.int l1), none, some (.int l3), none, none]) (st' := [.ref l0]) bf268_108 bf268_109 rfl rfl).trans ?_
  refine (bu (ls'' := [none, none, none, some (.int l3), none, none]) (st' := [.int l1, .ref l0]) bf268_109 bf268_110 rfl rfl).trans ?_
  refine (bu (ls'' := [none, none, none, none, none, none]) (st' := [.int l3, .int l1, .ref l0]) bf268_110 bf268_111 rfl rfl).trans ?_
  refine (bu (ls'' := [none, none, none, none, none, none]) (st' := [.int (nI 2), .int l3, .int l1, .ref l0]) bf268_111 bf268_112 rfl rfl).trans ?_
  exact bkH bf268_112 bf268_115 rfl (by decide +kernel) (Nat.le_of_ble_eq_true rfl) rfl
theorem bk268_135 {w : am_Wd} {l0 : Nat} {l3 : Int32} : am_run 268 135 [some (.ref l0), none, none, some (.int l3), none, none] [] w = (am_kf w l0 8).bind fun _ => (am_x 136 [.ref l0, .int (nI 0)] w).bind fun r => am_af 268 137 r (fun v w' => am_run 268 140 [some (.ref l0), none, none, some (.int l3), none, none] (v.toList ++ []) w') (fun h w' => am_run 268 h (am_nrm 268 h [some (.ref l0), none, none, some (.int l3), none, none]) [] w') := by
  refine (bu (ls'' := [some (.ref l0), none, none, some (.int l3), none, none]) (st' := [.ref l0]) bf268_135 bf268_136 rfl rfl).trans ?_
  refine (bu (ls'' := [some (.ref l0), none, none, some (.int l3), none, none]) (st' := [.int (nI 0), .ref l0]) bf268_136 bf268_137 rfl rfl).trans ?_
  exact bkHV bf268_137 bf268_140 rfl (by decide +kernel) (Nat.le_of_ble_eq_true rfl) rfl
theorem bk268_162 {w : am_Wd} {l0 : Nat} {l1 : Int32} {l3 : Int32} : am_run 268 162 [some (.ref l0), some (.int l1), none, some (.int l3), none, none] [] w = (am_x 266 [.int l3, .int (nI 2)] w).bind fun r => am_af 268 166 r (fun v w' => am_run 268 169 [none, none, none, none, none, none] (v.toList ++ [.int l1, .ref l0]) w') (fun h w' => am_run 268 h (am_nrm 268 h [none, none, none, none, none, none]) [] w') := by
  refine (bu (ls'' := [none, some (.int l1), none, some (.int l3), none, none]) (st' := [.ref l0]) bf268_162 bf268_163 rfl rfl).trans ?_
  refine (bu (ls'' := [none, none, none, some (.int l3), none, none]) (st' := [.int l1, .ref l0]) bf268_163 bf268_164 rfl rfl).trans ?_
  refine (bu (ls'' := [none, none, none, none, none, none]) (st' := [.int l3, .int l1, .ref l0]) bf268_164 bf268_165 rfl rfl).trans ?_
  refine (bu (ls'' := [none, none, none, none, none, none]) (st' := [.int (nI 2), .int l3, .int l1, .ref l0]) bf268_165 bf268_166 rfl rfl).trans ?_
  exact bkH bf268_166 bf268_169 rfl (by decide +kernel) (Nat.le_of_ble_eq_true rfl) rfl
theorem bk268_51 {w : am_Wd} {s0 : Int32} {s1 : Int32} {s2 : Nat} : am_run 268 51 [none, none, none, none, none, none] [.int s0, .int s1, .ref s2] w = if ¬ s0 = nI 0 then am_run 268 58 [none, none, none, none, none, none] [.int s1, .ref s2] w else am_run 268 54 [none, none, none, none, none, none] [.int s1, .ref s2] w := by
  exact bifc bf268_51 rfl bf268_58 bf268_54 rfl rfl rfl
theorem bk268_191 {w : am_Wd}  : am_run 268 191 [none, none, none, none, none, none] [] w = some (.inl (some (.int (nI 0))), w) := by
  refine (bu (ls'' := [none, none, none, none, none, none]) (st' := [.int (nI 0)]) bf268_191 bf268_192 rfl rfl).trans ?_
  exact am_e2 bf268_192 rfl (am_ge_rf w)
theorem bk268_72 {w : am_Wd} {l4 : Int32} {s0 : Int32} {s1 : Int32} {s2 : Nat} : am_run 268 72 [none, none, none, none, some (.int l4), none] [.int s0, .int s1, .ref s2] w = if ¬ s0 = nI 0 then am_run 268 79 [none, none, none, none, some (.int l4), none] [.int s1, .ref s2] w else am_run 268 75 [none, none, none, none, some (.int l4), none] [.int s1, .ref s2] w := by
  exact bifc bf268_72 rfl bf268_79 bf268_75 rfl rfl rfl
theorem bk268_115 {w : am_Wd} {s0 : Int32} {s1 : Int32} {s2 : Nat} : am_run 268 115 [none, none, none, none, none, none] [.int s0, .int s1, .ref s2] w = if ¬ s0 = nI 0 then am_run 268 122 [none, none, none, none, none, none] [.int s1, .ref s2] w else am_run 268 118 [none, none, none, none, none, none] [.int s1, .ref s2] w := by
  exact bifc bf268_115 rfl bf268_122 bf268_118 rfl rfl rfl
theorem bk268_140 {w : am_Wd} {l0 : Nat} {l3 : Int32} {s0 : Int32} : am_run 268 140 [some (.ref l0), none, none, some (.int l3), none, none] [.int s0] w = if (nI 2300) ≤ s0 then am_run 268 160 [none, none, none, none, none, none] [] w else am_run 268 146 [some (.ref l0), none, none, some (.int l3), none, none] [] w := by
  refine (bu (ls'' := [some (.ref l0), none, none, some (.int l3), none, none]) (st' := [.int (nI 2300), .int s0]) bf268_140 bf268_143 rfl rfl).trans ?_
  exact bic bf268_143 rfl bf268_160 bf268_146 rfl rfl rfl
theorem bk268_169 {w : am_Wd} {s0 : Int32} {s1 : Int32} {s2 : Nat} : am_run 268 169 [none, none, none, none, none, none] [.int s0, .int s1, .ref s2] w = if ¬ s0 = nI 0 then am_run 268 176 [none, none, none, none, none, none] [.int s1, .ref s2] w else am_run 268 172 [none, none, none, none, none, none] [.int s1, .ref s2] w := by
  exact bifc bf268_169 rfl bf268_176 bf268_172 rfl rfl rfl
theorem bk268_58 {w : am_Wd} {s0 : Int32} {s1 : Nat} : am_run 268 58 [none, none, none, none, none, none] [.int s0, .ref s1] w = am_run 268 59 [none, none, none, none, none, none] [.int (nI 0), .int s0, .ref s1] w := by
  refine (bu (ls'' := [none, none, none, none, none, none]) (st' := [.int (nI 0), .int s0, .ref s1]) bf268_58 bf268_59 rfl rfl).trans ?_
  rfl
theorem bk268_54 {w : am_Wd} {s0 : Int32} {s1 : Nat} : am_run 268 54 [none, none, none, none, none, none] [.int s0, .ref s1] w = am_run 268 59 [none, none, none, none, none, none] [.int (nI 1), .int s0, .ref s1] w := by
  refine (bu (ls'' := [none, none, none, none, none, none]) (st' := [.int (nI 1), .int s0, .ref s1]) bf268_54 bf268_55 rfl rfl).trans ?_
  refine (bu (ls'' := [none, none, none, none, none, none]) (st' := [.int (nI 1), .int s0, .ref s1]) bf268_55 bf268_59 rfl rfl).trans ?_
  rfl
theorem bk268_79 {w : am_Wd} {l4 : Int32} {s0 : Int32} {s1 : Nat} : am_run 268 79 [none, none, none, none, some (.int l4), none] [.int s0, .ref s1] w = am_run 268 80 [none, none, none, none, some (.int l4), none] [.int (nI 0), .int s0, .ref s1] w := by
  refine (bu (ls'' := [none, none, none, none, some (.int l4), none]) (st' := [.int (nI 0), .int s0, .ref s1]) bf268_79 bf268_80 rfl rfl).trans ?_
  rfl
theorem bk268_75 {w : am_Wd} {l4 : Int32} {s0 : Int32} {s1 : Nat} : am_run 268 75 [none, none, none, none, some (.int l4), none] [.int s0, .ref s1] w = am_run 268 80 [none, none, none, none, some (.int l4), none] [.int (nI 1), .int s0, .ref s1] w := by
  refine (bu (ls'' := [none, none, none, none, some (.int l4), none]) (st' := [.int (nI 1), .int s0, .ref s1]) bf268_75 bf268_76 rfl rfl).trans ?_
  refine (bu (ls'' := [none, none, none, none, some (.int l4), none]) (st' := [.int (nI 1), .int s0, .ref s1]) bf268_76 bf268_80 rfl rfl).trans ?_
  rfl
theorem bk268_122 {w : am_Wd} {s0 : Int32} {s1 : Nat} : am_run 268 122 [none, none, none, none, none, none] [.int s0, .ref s1] w = am_run 268 123 [none, none, none, none, none, none] [.int (nI 0), .int s0, .ref s1] w := by
  refine (bu (ls'' := [none, none, none, none, none, none]) (st' := [.int (nI 0), .int s0, .ref s1]) bf268_122 bf268_123 rfl rfl).trans ?_
  rfl
theorem bk268_118 {w : am_Wd} {s0 : Int32} {s1 : Nat} : am_run 268 118 [none, none, none, none, none, none] [.int s0, .ref s1] w = am_run 268 123 [none, none, none, none, none, none] [.int (nI 1), .int s0, .ref s1] w := by
  refine (bu (ls'' := [none, none, none, none, none, none]) (st' := [.int (nI 1), .int s0, .ref s1]) bf268_118 bf268_119 rfl rfl).trans ?_
  refine (bu (ls'' := [none, none, none, none, none, none]) (st' := [.int (nI 1), .int s0, .ref s1]) bf268_119 bf268_123 rfl rfl).trans ?_
  rfl
theorem bk268_160 {w : am_Wd}  : am_run 268 160 [none, none, none, none, none, none] [] w = some (.inl (some (.int (nI 0))), w) := by
  refine (bu (ls'' := [none, none, none, none, none, none]) (st' := [.int (nI 0)]) bf268_160 bf268_161 rfl rfl).trans ?_
  exact am_e2 bf268_161 rfl (am_ge_rf w)
theorem bk268_146 {w : am_Wd} {l0 : Nat} {l3 : Int32} : am_run 268 146 [some (.ref l0), none, none, some (.int l3), none, none] [] w = (am_x 266 [.int l3, .int (nI 300)] w).bind fun r => am_af 268 152 r (fun v w' => am_run 268 155 [none, none, none, none, none, none] (v.toList ++ [.int (nI 1), .ref l0]) w') (fun h w' => am_run 268 h (am_nrm 268 h [none, none, none, none, none, none]) [] w') := by
  refine (bu (ls'' := [none, none, none, some (.int l3), none, none]) (st' := [.ref l0]) bf268_146 bf268_147 rfl rfl).trans ?_
  refine (bu (ls'' := [none, none, none, some (.int l3), none, none]) (st' := [.int (nI 1), .ref l0]) bf268_147 bf268_148 rfl rfl).trans ?_
  refine (bu (ls'' := [none, none, none, none, none, none]) (st' := [.int l3, .int (nI 1), .ref l0]) bf268_148 bf268_149 rfl rfl).trans ?_
  refine (bu (ls'' := [none, none, none, none, none, none]) (st' := [.int (nI 300), .int l3, .int (nI 1), .ref l0]) bf268_149 bf268_152 rfl rfl).trans ?_
  exact bkH bf268_152 bf268_155 rfl (by decide +kernel) (Nat.le_of_ble_eq_true rfl) rfl
theorem bk268_176 {w : am_Wd} {s0 : Int32} {s1 : Nat} : am_run 268 176 [none, none, none, none, none, none] [.int s0, .ref s1] w = am_run 268 177 [none, none, none, none, none, none] [.int (nI 0), .int s0, .ref s1] w := by
  refine (bu (ls'' := [none, none, none, none, none, none]) (st' := [.int (nI 0), .int s0, .ref s1]) bf268_176 bf268_177 rfl rfl).trans ?_
  rfl
theorem bk268_172 {w : am_Wd} {s0 : Int32} {s1 : Nat} : am_run 268 172 [none, none, none, none, none, none] [.int s0, .ref s1] w = am_run 268 177 [none, none, none, none, none, none] [.int (nI 1), .int s0, .ref s1] w := by
  refine (bu (ls'' := [none, none, none, none, none, none]) (st' := [.int (nI 1), .int s0, .ref s1]) bf268_172 bf268_173 rfl rfl).trans ?_
  refine (bu (ls'' := [none, none, none, none, none, none]) (st' := [.int (nI 1), .int s0, .ref s1]) bf268_173 bf268_177 rfl rfl).trans ?_
  rfl
theorem bk268_59 {w : am_Wd} {s0 : Int32} {s1 : Int32} {s2 : Nat} : am_run 268 59 [none, none, none, none, none, none] [.int s0, .int s1, .ref s2] w = (am_kf w s2 8).bind fun _ => (am_x 239 [.ref s2, .int s1, .int s0] w).bind fun r => am_af 268 59 r (fun v w' => am_run 268 62 [none, none, none, none, none, none] (v.toList ++ []) w') (fun h w' => am_run 268 h (am_nrm 268 h [none, none, none, none, none, none]) [] w') := by
  exact bkHV bf268_59 bf268_62 rfl (by decide +kernel) (Nat.le_of_ble_eq_true rfl) rfl
theorem bk268_80 {w : am_Wd} {l4 : Int32} {s0 : Int32} {s1 : Int32} {s2 : Nat} : am_run 268 80 [none, none, none, none, some (.int l4), none] [.int s0, .int s1, .ref s2] w = (am_x 266 [.int (l4 / (nI 3)), .int (nI 2)] w).bind fun r => am_af 268 85 r (fun v w' => am_run 268 88 [none, none, none, none, none, none] (v.toList ++ [.int s0, .int s1, .ref s2]) w') (fun h w' => am_run 268 h (am_nrm 268 h [none, none, none, none, none, none]) [] w') := by
  refine (bu (ls'' := [none, none, none, none, none, none]) (st' := [.int l4, .int s0, .int s1, .ref s2]) bf268_80 bf268_82 rfl rfl).trans ?_
  refine (bu (ls'' := [none, none, none, none, none, none]) (st' := [.int (nI 3), .int l4, .int s0, .int s1, .ref s2]) bf268_82 bf268_83 rfl rfl).trans ?_
  refine (bu (ls'' := [none, none, none, none, none, none]) (st' := [.int (l4 / (nI 3)), .int s0, .int s1, .ref s2]) bf268_83 bf268_84 rfl rfl).trans ?_
  refine (bu (ls'' := [none, none, none, none, none, none]) (st' := [.int (nI 2), .int (l4 / (nI 3)), .int s0, .int s1, .ref s2]) bf268_84 bf268_85 rfl rfl).trans ?_
  exact bkH bf268_85 bf268_88 rfl (by decide +kernel) (Nat.le_of_ble_eq_true rfl) rfl
theorem bk268_123 {w : am_Wd} {s0 : Int32} {s1 : Int32} {s2 : Nat} : am_run 268 123 [none, none, none, none, none, none] [.int s0, .int s1, .ref s2] w = (am_kf w s2 8).bind fun _ => (am_x 241 [.ref s2, .int s1, .int s0] w).bind fun r => am_af 268 123 r (fun v w' => am_run 268 126 [none, none, none, none, none, none] (v.toList ++ []) w') (fun h w' => am_run 268 h (am_nrm 268 h [none, none, none, none, none, none]) [] w') := by
  exact bkHV bf268_123 bf268_126 rfl (by decide +kernel) (Nat.le_of_ble_eq_true rfl) rfl
theorem bk268_155 {w : am_Wd} {s0 : Int32} {s1 : Int32} {s2 : Nat} : am_run 268 155 [none, none, none, none, none, none] [.int s0, .int s1, .ref s2] w = (am_kf w s2 8).bind fun _ => (am_x 135 [.ref s2, .int (s1 + s0)] w).bind fun r => am_af 268 156 r (fun v w' => am_run 268 159 [none, none, none, none, none, none] (v.toList ++ []) w') (fun h w' => am_run 268 h (am_nrm 268 h [none, none, none, none, none, none]) [] w') := by
  refine (bu (ls'' := [none, none, none, none, none, none]) (st' := [.int (s1 + s0), .ref s2]) bf268_155 bf268_156 rfl rfl).trans ?_
  exact bkHV bf268_156 bf268_159 rfl (by decide +kernel) (Nat.le_of_ble_eq_true rfl) rfl
theorem bk268_177 {w : am_Wd} {s0 : Int32} {s1 : Int32} {s2 : Nat} : am_run 268 177 [none, none, none, none, none, none] [.int s0, .int s1, .ref s2] w = (am_kf w s2 8).bind fun _ => (am_x 242 [.ref s2, .int s1, .int s0] w).bind fun r => am_af 268 177 r (fun v w' => am_run 268 180 [none, none, none, none, none, none] (v.toList ++ []) w') (fun h w' => am_run 268 h (am_nrm 268 h [none, none, none, none, none, none]) [] w') := by
  exact bkHV bf268_177 bf268_180 rfl (by decide +kernel) (Nat.le_of_ble_eq_true rfl) rfl
theorem bk268_62 {w : am_Wd} {s0 : Int32} : am_run 268 62 [none, none, none, none, none, none] [.int s0] w = some (.inl (some (.int (nI 1))), w) := by
  refine (bu (ls'' := [none, none, none, none, none, none]) (st' := []) bf268_62 bf268_63 rfl rfl).trans ?_
  refine (bu (ls'' := [none, none, none, none, none, none]) (st' := [.int (nI 1)]) bf268_63 bf268_64 rfl rfl).trans ?_
  exact am_e2 bf268_64 rfl (am_ge_rf w)
theorem bk268_88 {w : am_Wd} {s0 : Int32} {s1 : Int32} {s2 : Int32} {s3 : Nat} : am_run 268 88 [none, none, none, none, none, none] [.int s0, .int s1, .int s2, .ref s3] w = if ¬ s0 = nI 0 then am_run 268 95 [none, none, none, none, none, none] [.int s1, .int s2, .ref s3] w else am_run 268 91 [none, none, none, none, none, none] [.int s1, .int s2, .ref s3] w := by
  exact bifc bf268_88 rfl bf268_95 bf268_91 rfl rfl rfl
theorem bk268_126 {w : am_Wd} {s0 : Int32} : am_run 268 126 [none, none, none, none, none, none] [.int s0] w = if s0 < nI 0 then am_run 268 133 [none, none, none, none, none, none] [] w else am_run 268 129 [none, none, none, none, none, none] [] w := by
  exact bifc bf268_126 rfl bf268_133 bf268_129 rfl rfl rfl
theorem bk268_159 {w : am_Wd} {s0 : Int32} : am_run 268 159 [none, none, none, none, none, none] [.int s0] w = am_run 268 160 [none, none, none, none, none, none] [] w := by
  refine (bu (ls'' := [none, none, none, none, none, none]) (st' := []) bf268_159 bf268_160 rfl rfl).trans ?_
  rfl
theorem bk268_180 {w : am_Wd} {s0 : Int32} : am_run 268 180 [none, none, none, none, none, none] [.int s0] w = if s0 < nI 0 then am_run 268 187 [none, none, none, none, none, none] [] w else am_run 268 183 [none, none, none, none, none, none] [] w := by
  exact bifc bf268_180 rfl bf268_187 bf268_183 rfl rfl rfl
theorem bk268_95 {w : am_Wd} {s0 : Int32} {s1 : Int32} {s2 : Nat} : am_run 268 95 [none, none, none, none, none, none] [.int s0, .int s1, .ref s2] w = am_run 268 96 [none, none, none, none, none, none] [.int (nI 0), .int s0, .int s1, .ref s2] w := by
  refine (bu (ls'' := [none, none, none, none, none, none]) (st' := [.int (nI 0), .int s0, .int s1, .ref s2]) bf268_95 bf268_96 rfl rfl).trans ?_
  rfl
theorem bk268_91 {w : am_Wd} {s0 : Int32} {s1 : Int32} {s2 : Nat} : am_run 268 91 [none, none, none, none, none, none] [.int s0, .int s1, .ref s2] w = am_run 268 96 [none, none, none, none, none, none] [.int (nI 1), .int s0, .int s1, .ref s2] w := by
  refine (bu (ls'' := [none, none, none, none, none, none]) (st' := [.int (nI 1), .int s0, .int s1, .ref s2]) bf268_91 bf268_92 rfl rfl).trans ?_
  refine (bu (ls'' := [none, none, none, none, none, none]) (st' := [.int (nI 1), .int s0, .int s1, .ref s2]) bf268_92 bf268_96 rfl rfl).trans ?_
  rfl
theorem bk268_133 {w : am_Wd}  : am_run 268 133 [none, none, none, none, none, none] [] w = am_run 268 134 [none, none, none, none, none, none] [.int (nI 0)] w := by
  refine (bu (ls'' := [none, none, none, none, none, none]) (st' := [.int (nI 0)]) bf268_133 bf268_134 rfl rfl).trans ?_
  rfl
theorem bk268_129 {w : am_Wd}  : am_run 268 129 [none, none, none, none, none, none] [] w = am_run 268 134 [none, none, none, none, none, none] [.int (nI 1)] w := by
  refine (bu (ls'' := [none, none, none, none, none, none]) (st' := [.int (nI 1)]) bf268_129 bf268_130 rfl rfl).trans ?_
  refine (bu (ls'' := [none, none, none, none, none, none]) (st' := [.int (nI 1)]) bf268_130 bf268_134 rfl rfl).trans ?_
  rfl
theorem bk268_187 {w : am_Wd}  : am_run 268 187 [none, none, none, none, none, none] [] w = am_run 268 188 [none, none, none, none, none, none] [.int (nI 0)] w := by
  refine (bu (ls'' := [none, none, none, none, none, none]) (st' := [.int (nI 0)]) bf268_187 bf268_188 rfl rfl).trans ?_
  rfl
theorem bk268_183 {w : am_Wd}  : am_run 268 183 [none, none, none, none, none, none] [] w = am_run 268 188 [none, none, none, none, none, none] [.int (nI 1)] w := by
  refine (bu (ls'' := [none, none, none, none, none, none]) (st' := [.int (nI 1)]) bf268_183 bf268_184 rfl rfl).trans ?_
  refine (bu (ls'' := [none, none, none, none, none, none]) (st' := [.int (nI 1)]) bf268_184 bf268_188 rfl rfl).trans ?_
  rfl
theorem bk268_96 {w : am_Wd} {s0 : Int32} {s1 : Int32} {s2 : Int32} {s3 : Nat} : am_run 268 96 [none, none, none, none, none, none] [.int s0, .int s1, .int s2, .ref s3] w = (am_kf w s3 8).bind fun _ => (am_x 240 [.ref s3, .int s2, .int s1, .int s0] w).bind fun r => am_af 268 96 r (fun v w' => am_run 268 99 [none, none, none, none, none, none] (v.toList ++ []) w') (fun h w' => am_run 268 h (am_nrm 268 h [none, none, none, none, none, none]) [] w') := by
  exact bkHV bf268_96 bf268_99 rfl (by decide +kernel) (Nat.le_of_ble_eq_true rfl) rfl
theorem bk268_134 {w : am_Wd} {s0 : Int32} (hb : am_ok (am_rt 1) (.int s0) = true) : am_run 268 134 [none, none, none, none, none, none] [.int s0] w = some (.inl (some (.int s0)), w) := by
  exact am_e2 bf268_134 (by unfold am_stp; exact if_pos ⟨by decide, hb⟩) (am_ge_rf w)
theorem bk268_188 {w : am_Wd} {s0 : Int32} (hb : am_ok (am_rt 1) (.int s0) = true) : am_run 268 188 [none, none, none, none, none, none] [.int s0] w = some (.inl (some (.int s0)), w) := by
  exact am_e2 bf268_188 (by unfold am_stp; exact if_pos ⟨by decide, hb⟩) (am_ge_rf w)
theorem bk268_99 {w : am_Wd} {s0 : Int32} : am_run 268 99 [none, none, none, none, none, none] [.int s0] w = if s0 ≤ nI 0 then am_run 268 106 [none, none, none, none, none, none] [] w else am_run 268 102 [none, none, none, none, none, none] [] w := by
  exact bifc bf268_99 rfl bf268_106 bf268_102 rfl rfl rfl
theorem bk268_106 {w : am_Wd}  : am_run 268 106 [none, none, none, none, none, none] [] w = am_run 268 107 [none, none, none, none, none, none] [.int (nI 0)] w := by
  refine (bu (ls'' := [none, none, none, none, none, none]) (st' := [.int (nI 0)]) bf268_106 bf268_107 rfl rfl).trans ?_
  rfl
theorem bk268_102 {w : am_Wd}  : am_run 268 102 [none, none, none, none, none, none] [] w = am_run 268 107 [none, none, none, none, none, none] [.int (nI 1)] w := by
  refine (bu (ls'' := [none, none, none, none, none, none]) (st' := [.int (nI 1)]) bf268_102 bf268_103 rfl rfl).trans ?_
  refine (bu (ls'' := [none, none, none, none, none, none]) (st' := [.int (nI 1)]) bf268_103 bf268_107 rfl rfl).trans ?_
  rfl
theorem bk268_107 {w : am_Wd} {s0 : Int32} (hb : am_ok (am_rt 1) (.int s0) = true) : am_run 268 107 [none, none, none, none, none, none] [.int s0] w = some (.inl (some (.int s0)), w) := by
  exact am_e2 bf268_107 (by unfold am_stp; exact if_pos ⟨by decide, hb⟩) (am_ge_rf w)
theorem bf269_0 : am_fetch (am_mth 269) 0 = some (.iconst 0, 1, [], [2, 3, 4]) := by decide +kernel
theorem bf269_1 : am_fetch (am_mth 269) 1 = some (.istore_n 2, 1, [], [2, 3, 4]) := by decide +kernel
theorem bf269_2 : am_fetch (am_mth 269) 2 = some (.iconst 0, 1, [], [3, 4]) := by decide +kernel
theorem bf269_3 : am_fetch (am_mth 269) 3 = some (.istore_n 3, 1, [], [3, 4]) := by decide +kernel
theorem bf269_4 : am_fetch (am_mth 269) 4 = some (.iconst 0, 1, [], [4]) := by decide +kernel
theorem bf269_5 : am_fetch (am_mth 269) 5 = some (.istore 4, 2, [], [4]) := by decide +kernel
theorem bf269_7 : am_fetch (am_mth 269) 7 = some (.iload 4, 2, [], []) := by decide +kernel
theorem bf269_9 : am_fetch (am_mth 269) 9 = some (.sipush 144, 3, [], []) := by decide +kernel
theorem bf269_12 : am_fetch (am_mth 269) 12 = some (.if_icmp .ge 27, 3, [], []) := by decide +kernel
theorem bf269_15 : am_fetch (am_mth 269) 15 = some (.iload_n 2, 1, [], []) := by decide +kernel
theorem bf269_16 : am_fetch (am_mth 269) 16 = some (.aload_n 0, 1, [], [2]) := by decide +kernel
theorem bf269_17 : am_fetch (am_mth 269) 17 = some (.iload_n 1, 1, [], [2]) := by decide +kernel
theorem bf269_18 : am_fetch (am_mth 269) 18 = some (.iload 4, 2, [], [2]) := by decide +kernel
theorem bf269_20 : am_fetch (am_mth 269) 20 = some (.invokevirtual 81, 3, [0, 138, 2, 8, 698, 699, 700, 17], [2]) := by decide +kernel
theorem bf269_23 : am_fetch (am_mth 269) 23 = some (.ifCond .eq 7, 3, [], [2]) := by decide +kernel
theorem bf269_26 : am_fetch (am_mth 269) 26 = some (.iconst 1, 1, [], [2]) := by decide +kernel
theorem bf269_27 : am_fetch (am_mth 269) 27 = some (.goto 4, 3, [], [2]) := by decide +kernel
theorem bf269_30 : am_fetch (am_mth 269) 30 = some (.iconst 0, 1, [], [2]) := by decide +kernel
theorem bf269_31 : am_fetch (am_mth 269) 31 = some (.iadd, 1, [], [2]) := by decide +kernel
theorem bf269_32 : am_fetch (am_mth 269) 32 = some (.istore_n 2, 1, [], [2]) := by decide +kernel
theorem bf269_33 : am_fetch (am_mth 269) 33 = some (.iinc 4 1, 3, [], []) := by decide +kernel
theorem bf269_36 : am_fetch (am_mth 269) 36 = some (.goto (-29), 3, [], []) := by decide +kernel
theorem bf269_39 : am_fetch (am_mth 269) 39 = some (.iconst 0, 1, [], [4]) := by decide +kernel
theorem bf269_40 : am_fetch (am_mth 269) 40 = some (.istore 4, 2, [], [4]) := by decide +kernel
theorem bf269_42 : am_fetch (am_mth 269) 42 = some (.iload 4, 2, [], []) := by decide +kernel
theorem bf269_44 : am_fetch (am_mth 269) 44 = some (.bipush 36, 2, [], []) := by decide +kernel
theorem bf269_46 : am_fetch (am_mth 269) 46 = some (.if_icmp .ge 71, 3, [], []) := by decide +kernel
theorem bf269_49 : am_fetch (am_mth 269) 49 = some (.iload_n 3, 1, [], []) := by decide +kernel
theorem bf269_50 : am_fetch (am_mth 269) 50 = some (.aload_n 0, 1, [], [3]) := by decide +kernel
theorem bf269_51 : am_fetch (am_mth 269) 51 = some (.iload_n 1, 1, [], [3]) := by decide +kernel
theorem bf269_52 : am_fetch (am_mth 269) 52 = some (.iconst 4, 1, [], [3]) := by decide +kernel
theorem bf269_53 : am_fetch (am_mth 269) 53 = some (.iload 4, 2, [], [3]) := by decide +kernel
theorem bf269_55 : am_fetch (am_mth 269) 55 = some (.imul, 1, [], [3]) := by decide +kernel
theorem bf269_56 : am_fetch (am_mth 269) 56 = some (.invokevirtual 81, 3, [0, 138, 2, 8, 698, 699, 700, 17], [3]) := by decide +kernel
theorem bf269_59 : am_fetch (am_mth 269) 59 = some (.ifCond .ne 45, 3, [], [3]) := by decide +kernel
theorem bf269_62 : am_fetch (am_mth 269) 62 = some (.aload_n 0, 1, [], [3]) := by decide +kernel
theorem bf269_63 : am_fetch (am_mth 269) 63 = some (.iload_n 1, 1, [], [3]) := by decide +kernel
theorem bf269_64 : am_fetch (am_mth 269) 64 = some (.iconst 4, 1, [], [3]) := by decide +kernel
theorem bf269_65 : am_fetch (am_mth 269) 65 = some (.iload 4, 2, [], [3]) := by decide +kernel
theorem bf269_67 : am_fetch (am_mth 269) 67 = some (.imul, 1, [], [3]) := by decide +kernel
theorem bf269_68 : am_fetch (am_mth 269) 68 = some (.iconst 1, 1, [], [3]) := by decide +kernel
theorem bf269_69 : am_fetch (am_mth 269) 69 = some (.iadd, 1, [], [3]) := by decide +kernel
theorem bf269_70 : am_fetch (am_mth 269) 70 = some (.invokevirtual 81, 3, [0, 138, 2, 8, 698, 699, 700, 17], [3]) := by decide +kernel
theorem bf269_73 : am_fetch (am_mth 269) 73 = some (.ifCond .ne 31, 3, [], [3]) := by decide +kernel
theorem bf269_76 : am_fetch (am_mth 269) 76 = some (.aload_n 0, 1, [], [3]) := by decide +kernel
theorem bf269_77 : am_fetch (am_mth 269) 77 = some (.iload_n 1, 1, [], [3]) := by decide +kernel
theorem bf269_78 : am_fetch (am_mth 269) 78 = some (.iconst 4, 1, [], [3]) := by decide +kernel
theorem bf269_79 : am_fetch (am_mth 269) 79 = some (.iload 4, 2, [], [3]) := by decide +kernel
theorem bf269_81 : am_fetch (am_mth 269) 81 = some (.imul, 1, [], [3]) := by decide +kernel
theorem bf269_82 : am_fetch (am_mth 269) 82 = some (.iconst 2, 1, [], [3]) := by decide +kernel
theorem bf269_83 : am_fetch (am_mth 269) 83 = some (.iadd, 1, [], [3]) := by decide +kernel
theorem bf269_84 : am_fetch (am_mth 269) 84 = some (.invokevirtual 81, 3, [0, 138, 2, 8, 698, 699, 700, 17], [3]) := by decide +kernel
theorem bf269_87 : am_fetch (am_mth 269) 87 = some (.ifCond .ne 17, 3, [], [3]) := by decide +kernel
theorem bf269_90 : am_fetch (am_mth 269) 90 = some (.aload_n 0, 1, [], [3]) := by decide +kernel
theorem bf269_91 : am_fetch (am_mth 269) 91 = some (.iload_n 1, 1, [], [3]) := by decide +kernel
theorem bf269_92 : am_fetch (am_mth 269) 92 = some (.iconst 4, 1, [], [3]) := by decide +kernel
theorem bf269_93 : am_fetch (am_mth 269) 93 = some (.iload 4, 2, [], [3]) := by decide +kernel
theorem bf269_95 : am_fetch (am_mth 269) 95 = some (.imul, 1, [], [3]) := by decide +kernel
theorem bf269_96 : am_fetch (am_mth 269) 96 = some (.iconst 3, 1, [], [3]) := by decide +kernel
theorem bf269_97 : am_fetch (am_mth 269) 97 = some (.iadd, 1, [], [3]) := by decide +kernel
theorem bf269_98 : am_fetch (am_mth 269) 98 = some (.invokevirtual 81, 3, [0, 138, 2, 8, 698, 699, 700, 17], [3]) := by decide +kernel
theorem bf269_101 : am_fetch (am_mth 269) 101 = some (.ifCond .eq 7, 3, [], [3]) := by decide +kernel
theorem bf269_104 : am_fetch (am_mth 269) 104 = some (.iconst 1, 1, [], [3]) := by decide +kernel
theorem bf269_105 : am_fetch (am_mth 269) 105 = some (.goto 4, 3, [], [3]) := by decide +kernel
theorem bf269_108 : am_fetch (am_mth 269) 108 = some (.iconst 0, 1, [], [3]) := by decide +kernel
theorem bf269_109 : am_fetch (am_mth 269) 109 = some (.iadd, 1, [], [3]) := by decide +kernel
theorem bf269_110 : am_fetch (am_mth 269) 110 = some (.istore_n 3, 1, [], [3]) := by decide +kernel
theorem bf269_111 : am_fetch (am_mth 269) 111 = some (.iinc 4 1, 3, [], []) := by decide +kernel
theorem bf269_114 : am_fetch (am_mth 269) 114 = some (.goto (-72), 3, [], []) := by decide +kernel
theorem bf269_117 : am_fetch (am_mth 269) 117 = some (.iload_n 2, 1, [], [4]) := by decide +kernel
theorem bf269_118 : am_fetch (am_mth 269) 118 = some (.aload_n 0, 1, [], [4]) := by decide +kernel
theorem bf269_119 : am_fetch (am_mth 269) 119 = some (.iload_n 1, 1, [], [4]) := by decide +kernel
theorem bf269_120 : am_fetch (am_mth 269) 120 = some (.iconst 3, 1, [], [4]) := by decide +kernel
theorem bf269_121 : am_fetch (am_mth 269) 121 = some (.invokevirtual 33, 3, [0, 201, 2, 8, 339, 340, 341, 17], [4]) := by decide +kernel
theorem bf269_124 : am_fetch (am_mth 269) 124 = some (.if_icmp .ne 92, 3, [], [4]) := by decide +kernel
theorem bf269_127 : am_fetch (am_mth 269) 127 = some (.iload_n 2, 1, [], [4]) := by decide +kernel
theorem bf269_128 : am_fetch (am_mth 269) 128 = some (.iconst 1, 1, [], [2, 4]) := by decide +kernel
theorem bf269_129 : am_fetch (am_mth 269) 129 = some (.if_icmp .lt 87, 3, [], [2, 4]) := by decide +kernel
theorem bf269_132 : am_fetch (am_mth 269) 132 = some (.aload_n 0, 1, [], [2, 4]) := by decide +kernel
theorem bf269_133 : am_fetch (am_mth 269) 133 = some (.iload_n 1, 1, [], [2, 4]) := by decide +kernel
theorem bf269_134 : am_fetch (am_mth 269) 134 = some (.invokevirtual 85, 3, [0, 91, 1, 8, 707, 538, 539, 17], [2, 4]) := by decide +kernel
theorem bf269_137 : am_fetch (am_mth 269) 137 = some (.iload_n 3, 1, [], [2, 4]) := by decide +kernel
theorem bf269_138 : am_fetch (am_mth 269) 138 = some (.i2d, 1, [], [2, 3, 4]) := by decide +kernel
theorem bf269_139 : am_fetch (am_mth 269) 139 = some (.ldc2_w 89, 3, [1, 4630263366890291200, 708], [2, 3, 4]) := by decide +kernel
theorem bf269_142 : am_fetch (am_mth 269) 142 = some (.ddiv, 1, [], [2, 3, 4]) := by decide +kernel
theorem bf269_143 : am_fetch (am_mth 269) 143 = some (.dcmp .l, 1, [], [2, 3, 4]) := by decide +kernel
theorem bf269_144 : am_fetch (am_mth 269) 144 = some (.ifCond .ne 72, 3, [], [2, 3, 4]) := by decide +kernel
theorem bf269_147 : am_fetch (am_mth 269) 147 = some (.aload_n 0, 1, [], [2, 3, 4]) := by decide +kernel
theorem bf269_148 : am_fetch (am_mth 269) 148 = some (.iload_n 1, 1, [], [2, 3, 4]) := by decide +kernel
theorem bf269_149 : am_fetch (am_mth 269) 149 = some (.aload_n 0, 1, [], [2, 3, 4]) := by decide +kernel
theorem bf269_150 : am_fetch (am_mth 269) 150 = some (.iload_n 1, 1, [], [2, 3, 4]) := by decide +kernel
theorem bf269_151 : am_fetch (am_mth 269) 151 = some (.iconst 0, 1, [], [2, 3, 4]) := by decide +kernel
theorem bf269_152 : am_fetch (am_mth 269) 152 = some (.invokevirtual 33, 3, [0, 201, 2, 8, 339, 340, 341, 17], [2, 3, 4]) := by decide +kernel
theorem bf269_155 : am_fetch (am_mth 269) 155 = some (.invokevirtual 81, 3, [0, 138, 2, 8, 698, 699, 700, 17], [2, 3, 4]) := by decide +kernel
theorem bf269_158 : am_fetch (am_mth 269) 158 = some (.ifCond .eq 58, 3, [], [2, 3, 4]) := by decide +kernel
theorem bf269_161 : am_fetch (am_mth 269) 161 = some (.aload_n 0, 1, [], [2, 3, 4]) := by decide +kernel
theorem bf269_162 : am_fetch (am_mth 269) 162 = some (.iload_n 1, 1, [], [2, 3, 4]) := by decide +kernel
theorem bf269_163 : am_fetch (am_mth 269) 163 = some (.bipush 9, 2, [], [2, 3, 4]) := by decide +kernel
theorem bf269_165 : am_fetch (am_mth 269) 165 = some (.invokevirtual 33, 3, [0, 201, 2, 8, 339, 340, 341, 17], [2, 3, 4]) := by decide +kernel
theorem bf269_168 : am_fetch (am_mth 269) 168 = some (.ifCond .ne 48, 3, [], [2, 3, 4]) := by decide +kernel
theorem bf269_171 : am_fetch (am_mth 269) 171 = some (.aload_n 0, 1, [], [2, 3, 4]) := by decide +kernel
theorem bf269_172 : am_fetch (am_mth 269) 172 = some (.iload_n 1, 1, [], [2, 3, 4]) := by decide +kernel
theorem bf269_173 : am_fetch (am_mth 269) 173 = some (.bipush 8, 2, [], [2, 3, 4]) := by decide +kernel
theorem bf269_175 : am_fetch (am_mth 269) 175 = some (.invokevirtual 33, 3, [0, 201, 2, 8, 339, 340, 341, 17], [2, 3, 4]) := by decide +kernel
theorem bf269_178 : am_fetch (am_mth 269) 178 = some (.ifCond .ne 38, 3, [], [2, 3, 4]) := by decide +kernel
theorem bf269_181 : am_fetch (am_mth 269) 181 = some (.aload_n 0, 1, [], [2, 3, 4]) := by decide +kernel
theorem bf269_182 : am_fetch (am_mth 269) 182 = some (.iload_n 1, 1, [], [2, 3, 4]) := by decide +kernel
theorem bf269_183 : am_fetch (am_mth 269) 183 = some (.bipush 7, 2, [], [2, 3, 4]) := by decide +kernel
theorem bf269_185 : am_fetch (am_mth 269) 185 = some (.invokevirtual 33, 3, [0, 201, 2, 8, 339, 340, 341, 17], [2, 3, 4]) := by decide +kernel
theorem bf269_188 : am_fetch (am_mth 269) 188 = some (.aload_n 0, 1, [], [2, 3, 4]) := by decide +kernel
theorem bf269_189 : am_fetch (am_mth 269) 189 = some (.iload_n 1, 1, [], [2, 3, 4]) := by decide +kernel
theorem bf269_190 : am_fetch (am_mth 269) 190 = some (.iconst 5, 1, [], [2, 3, 4]) := by decide +kernel
theorem bf269_191 : am_fetch (am_mth 269) 191 = some (.invokevirtual 33, 3, [0, 201, 2, 8, 339, 340, 341, 17], [2, 3, 4]) := by decide +kernel
theorem bf269_194 : am_fetch (am_mth 269) 194 = some (.aload_n 0, 1, [], [2, 3, 4]) := by decide +kernel
theorem bf269_195 : am_fetch (am_mth 269) 195 = some (.iload_n 1, 1, [], [2, 3, 4]) := by decide +kernel
theorem bf269_196 : am_fetch (am_mth 269) 196 = some (.bipush 6, 2, [], [1, 2, 3, 4]) := by decide +kernel
theorem bf269_198 : am_fetch (am_mth 269) 198 = some (.invokevirtual 33, 3, [0, 201, 2, 8, 339, 340, 341, 17], [1, 2, 3, 4]) := by decide +kernel
theorem bf269_201 : am_fetch (am_mth 269) 201 = some (.iadd, 1, [], [1, 2, 3, 4]) := by decide +kernel
theorem bf269_202 : am_fetch (am_mth 269) 202 = some (.if_icmp .ne 14, 3, [], [1, 2, 3, 4]) := by decide +kernel
theorem bf269_205 : am_fetch (am_mth 269) 205 = some (.aload_n 0, 1, [], [1, 2, 3, 4]) := by decide +kernel
theorem bf269_206 : am_fetch (am_mth 269) 206 = some (.invokevirtual 91, 3, [0, 224, 0, 8, 709, 552, 553, 17], [0, 1, 2, 3, 4]) := by decide +kernel
theorem bf269_209 : am_fetch (am_mth 269) 209 = some (.ifCond .eq 7, 3, [], [0, 1, 2, 3, 4]) := by decide +kernel
theorem bf269_212 : am_fetch (am_mth 269) 212 = some (.iconst 1, 1, [], [0, 1, 2, 3, 4]) := by decide +kernel
theorem bf269_213 : am_fetch (am_mth 269) 213 = some (.goto 4, 3, [], [0, 1, 2, 3, 4]) := by decide +kernel
theorem bf269_216 : am_fetch (am_mth 269) 216 = some (.iconst 0, 1, [], [0, 1, 2, 3, 4]) := by decide +kernel
theorem bf269_217 : am_fetch (am_mth 269) 217 = some (.ireturn, 1, [1], [0, 1, 2, 3, 4]) := by decide +kernel
theorem bk269_0 {w : am_Wd} {l0 : Nat} {l1 : Int32} : am_run 269 0 [some (.ref l0), some (.int l1), none, none, none] [] w = am_run 269 7 [some (.ref l0), some (.int l1), some (.int (nI 0)), some (.int (nI 0)), some (.int (nI 0))] [] w := by
  refine (bu (ls'' := [some (.ref l0), some (.int l1), none, none, none]) (st' := [.int (nI 0)]) bf269_0 bf269_1 rfl rfl).trans ?_
  refine (bu (ls'' := [some (.ref l0), some (.int l1), some (.int (nI 0)), none, none]) (st' := []) bf269_1 bf269_2 rfl rfl).trans ?_
  refine (bu (ls'' := [some (.ref l0), some (.int l1), some (.int (nI 0)), none, none]) (st' := [.int (nI 0)]) bf269_2 bf269_3 rfl rfl).trans ?_
  refine (bu (ls'' := [some (.ref l0), some (.int l1), some (.int (nI 0)), some (.int (nI 0)), none]) (st' := []) bf269_3 bf269_4 rfl rfl).trans ?_
  refine (bu (ls'' := [some (.ref l0), some (.int l1), some (.int (nI 0)), some (.int (nI 0)), none]) (st' := [.int (nI 0)]) bf269_4 bf269_5 rfl rfl).trans ?_
  refine (bu (ls'' := [some (.ref l0), some (.int l1), some (.int (nI 0)), some (.int (nI 0)), some (.int (nI 0))]) (st' := []) bf269_5 bf269_7 rfl rfl).trans ?_
  rfl
theorem bk269_7 {w : am_Wd} {l0 : Nat} {l1 : Int32} {l2 : Int32} {l3 : Int32} {l4 : Int32} : am_run 269 7 [some (.ref l0), some (.int l1), some (.int l2), some (.int l3), some (.int l4)] [] w = if (nI 144) ≤ l4 then am_run 269 39 [some (.ref l0), some (.int l1), some (.int l2), some (.int l3), none] [] w else am_run 269 15 [some (.ref l0), some (.int l1), some (.int l2), some (.int l3), some (.int l4)] [] w := by
  refine (bu (ls'' := [some (.ref l0), some (.int l1), some (.int l2), some (.int l3), some (.int l4)]) (st' := [.int l4]) bf269_7 bf269_9 rfl rfl).trans ?_
  refine (bu (ls'' := [some (.ref l0), some (.int l1), some (.int l2), some (.int l3), some (.int l4)]) (st' := [.int (nI 144), .int l4]) bf269_9 bf269_12 rfl rfl).trans ?_
  exact bic bf269_12 rfl bf269_39 bf269_15 rfl rfl rfl
theorem bk269_39 {w : am_Wd} {l0 : Nat} {l1 : Int32} {l2 : Int32} {l3 : Int32} : am_run 269 39 [some (.ref l0), some (.int l1), some (.int l2), some (.int l3), none] [] w = am_run 269 42 [some (.ref l0), some (.int l1), some (.int l2), some (.int l3), some (.int (nI 0))] [] w := by
  refine (bu (ls'' := [some (.ref l0), some (.int l1), some (.int l2), some (.int l3), none]) (st' := [.int (nI 0)]) bf269_39 bf269_40 rfl rfl).trans ?_
  refine (bu (ls'' := [some (.ref l0), some (.int l1), some (.int l2), some (.int l3), some (.int (nI 0))]) (st' := []) bf269_40 bf269_42 rfl rfl).trans ?_
  rfl
theorem bk269_15 {w : am_Wd} {l0 : Nat} {l1 : Int32} {l2 : Int32} {l3 : Int32} {l4 : Int32} : am_run 269 15 [some (.ref l0), some (.int l1), some (.int l2), some (.int l3), some (.int l4)] [] w = (am_kf w l0 8).bind fun _ => (am_x 138 [.ref l0, .int l1, .int l4] w).bind fun r => bct r fun v w' => am_run 269 23 [some (.ref l0), some (.int l1), none, some (.int l3), some (.int l4)] (v.toList ++ [.int l2]) w' := by
  refine (bu (ls'' := [some (.ref l0), some (.int l1), none, some (.int l3), some (.int l4)]) (st' := [.int l2]) bf269_15 bf269_16 rfl rfl).trans ?_
  refine (bu (ls'' := [some (.ref l0), some (.int l1), none, some (.int l3), some (.int l4)]) (st' := [.ref l0, .int l2]) bf269_16 bf269_17 rfl rfl).trans ?_
  refine (bu (ls'' := [some (.ref l0), some (.int l1), none, some (.int l3), some (.int l4)]) (st' := [.int l1, .ref l0, .int l2]) bf269_17 bf269_18 rfl rfl).trans ?_
  refine (bu (ls'' := [some (.ref l0), some (.int l1), none, some (.int l3), some (.int l4)]) (st' := [.int l4, .int l1, .ref l0, .int l2]) bf269_18 bf269_20 rfl rfl).trans ?_
  exact bkV bf269_20 bf269_23 rfl (by decide +kernel) (Nat.le_of_ble_eq_true rfl) rfl (bhd rfl)
theorem bk269_42 {w : am_Wd} {l0 : Nat} {l1 : Int32} {l2 : Int32} {l3 : Int32} {l4 : Int32} : am_run 269 42 [some (.ref l0), some (.int l1), some (.int l2), some (.int l3), some (.int l4)] [] w = if (nI 36) ≤ l4 then am_run 269 117 [some (.ref l0), some (.int l1), some (.int l2), some (.int l3), none] [] w else am_run 269 49 [some (.ref l0), some (.int l1), some (.int l2), some (.int l3), some (.int l4)] [] w := by
  refine (bu (ls'' := [some (.ref l0), some (.int l1), some (.int l2), some (.int l3), some (.int l4)]) (st' := [.int l4]) bf269_42 bf269_44 rfl rfl).trans ?_
  refine (bu (ls'' := [some (.ref l0), some (.int l1), some (.int l2), some (.int l3), some (.int l4)]) (st' := [.int (nI 36), .int l4]) bf269_44 bf269_46 rfl rfl).trans ?_
  exact bic bf269_46 rfl bf269_117 bf269_49 rfl rfl rfl
theorem bk269_23 {w : am_Wd} {l0 : Nat} {l1 : Int32} {l3 : Int32} {l4 : Int32} {s0 : Int32} {s1 : Int32} : am_run 269 23 [some (.ref l0), some (.int l1), none, some (.int l3), some (.int l4)] [.int s0, .int s1] w = if s0 = nI 0 then am_run 269 30 [some (.ref l0), some (.int l1), none, some (.int l3), some (.int l4)] [.int s1] w else am_run 269 26 [some (.ref l0), some (.int l1), none, some (.int l3), some (.int l4)] [.int s1] w := by
  exact bifc bf269_23 rfl bf269_30 bf269_26 rfl rfl rfl
theorem bk269_117 {w : am_Wd} {l0 : Nat} {l1 : Int32} {l2 : Int32} {l3 : Int32} : am_run 269 117 [some (.ref l0), some (.int l1), some (.int l2), some (.int l3), none] [] w = (am_kf w l0 8).bind fun _ => (am_x 201 [.ref l0, .int l1, .int (nI 3)] w).bind fun r => bct r fun v w' => am_run 269 124 [some (.ref l0), some (.int l1), some (.int l2), some (.int l3), none] (v.toList ++ [.int l2]) w' := by
  refine (bu (ls'' := [some (.ref l0), some (.int l1), some (.int l2), some (.int l3), none]) (st' := [.int l2]) bf269_117 bf269_118 rfl rfl).trans ?_
  refine (bu (ls'' := [some (.ref l0), some (.int l1), some (.int l2), some (.int l3), none]) (st' := [.ref l0, .int l2]) bf269_118 bf269_119 rfl rfl).trans ?_
  refine (bu (ls'' := [some (.ref l0), some (.int l1), some (.int l2), some (.int l3), none]) (st' := [.int l1, .ref l0, .int l2]) bf269_119 bf269_120 rfl rfl).trans ?_
  refine (bu (ls'' := [some (.ref l0), some (.int l1), some (.int l2), some (.int l3), none]) (st' := [.int (nI 3), .int l1, .ref l0, .int l2]) bf269_120 bf269_121 rfl rfl).trans ?_
  exact bkV bf269_121 bf269_124 rfl (by decide +kernel) (Nat.le_of_ble_eq_true rfl) rfl (bhd rfl)
theorem bk269_49 {w : am_Wd} {l0 : Nat} {l1 : Int32} {l2 : Int32} {l3 : Int32} {l4 : Int32} : am_run 269 49 [some (.ref l0), some (.int l1), some (.int l2), some (.int l3), some (.int l4)] [] w = (am_kf w l0 8).bind fun _ => (am_x 138 [.ref l0, .int l1, .int ((nI 4) * l4)] w).bind fun r => bct r fun v w' => am_run 269 59 [some (.ref l0), some (.int l1), some (.int l2), none, some (.int l4)] (v.toList ++ [.int l3]) w' := by
  refine (bu (ls'' := [some (.ref l0), some (.int l1), some (.int l2), none, some (.int l4)]) (st' := [.int l3]) bf269_49 bf269_50 rfl rfl).trans ?_
  refine (bu (ls'' := [some (.ref l0), some (.int l1), some (.int l2), none, some (.int l4)]) (st' := [.ref l0, .int l3]) bf269_50 bf269_51 rfl rfl).trans ?_
  refine (bu (ls'' := [some (.ref l0), some (.int l1), some (.int l2), none, some (.int l4)]) (st' := [.int l1, .ref l0, .int l3]) bf269_51 bf269_52 rfl rfl).trans ?_
  refine (bu (ls'' := [some (.ref l0), some (.int l1), some (.int l2), none, some (.int l4)]) (st' := [.int (nI 4), .int l1, .ref l0, .int l3]) bf269_52 bf269_53 rfl rfl).trans ?_
  refine (bu (ls'' := [some (.ref l0), some (.int l1), some (.int l2), none, some (.int l4)]) (st' := [.int l4, .int (nI 4), .int l1, .ref l0, .int l3]) bf269_53 bf269_55 rfl rfl).trans ?_
  refine (bu (ls'' := [some (.ref l0), some (.int l1), some (.int l2), none, some (.int l4)]) (st' := [.int ((nI 4) * l4), .int l1, .ref l0, .int l3]) bf269_55 bf269_56 rfl rfl).trans ?_
  exact bkV bf269_56 bf269_59 rfl (by decide +kernel) (Nat.le_of_ble_eq_true rfl) rfl (bhd rfl)
theorem bk269_30 {w : am_Wd} {l0 : Nat} {l1 : Int32} {l3 : Int32} {l4 : Int32} {s0 : Int32} : am_run 269 30 [some (.ref l0), some (.int l1), none, some (.int l3), some (.int l4)] [.int s0] w = am_run 269 31 [some (.ref l0), some (.int l1), none, some (.int l3), some (.int l4)] [.int (nI 0), .int s0] w := by
  refine (bu (ls'' := [some (.ref l0), some (.int l1), none, some (.int l3), some (.int l4)]) (st' := [.int (nI 0), .int s0]) bf269_30 bf269_31 rfl rfl).trans ?_
  rfl
theorem bk269_26 {w : am_Wd} {l0 : Nat} {l1 : Int32} {l3 : Int32} {l4 : Int32} {s0 : Int32} : am_run 269 26 [some (.ref l0), some (.int l1), none, some (.int l3), some (.int l4)] [.int s0] w = am_run 269 31 [some (.ref l0), some (.int l1), none, some (.int l3), some (.int l4)] [.int (nI 1), .int s0] w := by
  refine (bu (ls'' := [some (.ref l0), some (.int l1), none, some (.int l3), some (.int l4)]) (st' := [.int (nI 1), .int s0]) bf269_26 bf269_27 rfl rfl).trans ?_
  refine (bu (ls'' := [some (.ref l0), some (.int l1), none, some (.int l3), some (.int l4)]) (st' := [.int (nI 1), .int s0]) bf269_27 bf269_31 rfl rfl).trans ?_
  rfl
theorem bk269_124 {w : am_Wd} {l0 : Nat} {l1 : Int32} {l2 : Int32} {l3 : Int32} {s0 : Int32} {s1 : Int32} : am_run 269 124 [some (.ref l0), some (.int l1), some (.int l2), some (.int l3), none] [.int s0, .int s1] w = if ¬ s1 = s0 then am_run 269 216 [none, none, none, none, none] [] w else am_run 269 127 [some (.ref l0), some (.int l1), some (.int l2), some (.int l3), none] [] w := by
  exact bic bf269_124 rfl bf269_216 bf269_127 rfl rfl rfl
theorem bk269_59 {w : am_Wd} {l0 : Nat} {l1 : Int32} {l2 : Int32} {l4 : Int32} {s0 : Int32} {s1 : Int32} : am_run 269 59 [some (.ref l0), some (.int l1), some (.int l2), none, some (.int l4)] [.int s0, .int s1] w = if ¬ s0 = nI 0 then am_run 269 104 [some (.ref l0), some (.int l1), some (.int l2), none, some (.int l4)] [.int s1] w else am_run 269 62 [some (.ref l0), some (.int l1), some (.int l2), none, some (.int l4)] [.int s1] w := by
  exact bifc bf269_59 rfl bf269_104 bf269_62 rfl rfl rfl
theorem bk269_31 {w : am_Wd} {l0 : Nat} {l1 : Int32} {l3 : Int32} {l4 : Int32} {s0 : Int32} {s1 : Int32} : am_run 269 31 [some (.ref l0), some (.int l1), none, some (.int l3), some (.int l4)] [.int s0, .int s1] w = am_run 269 7 [some (.ref l0), some (.int l1), some (.int (s1 + s0)), some (.int l3), some (.int (l4 + (nI 1)))] [] w := by
  refine (bu (ls'' := [some (.ref l0), some (.int l1), none, some (.int l3), some (.int l4)]) (st' := [.int (s1 + s0)]) bf269_31 bf269_32 rfl rfl).trans ?_
  refine (bu (ls'' := [some (.ref l0), some (.int l1), some (.int (s1 + s0)), some (.int l3), some (.int l4)]) (st' := []) bf269_32 bf269_33 rfl rfl).trans ?_
  refine (bu (ls'' := [some (.ref l0), some (.int l1), some (.int (s1 + s0)), some (.int l3), some (.int (l4 + (nI 1)))]) (st' := []) bf269_33 bf269_36 rfl rfl).trans ?_
  refine (bu (ls'' := [some (.ref l0), some (.int l1), some (.int (s1 + s0)), some (.int l3), some (.int (l4 + (nI 1)))]) (st' := []) bf269_36 bf269_7 rfl rfl).trans ?_
  rfl
theorem bk269_216 {w : am_Wd}  : am_run 269 216 [none, none, none, none, none] [] w = am_run 269 217 [none, none, none, none, none] [.int (nI 0)] w := by
  refine (bu (ls'' := [none, none, none, none, none]) (st' := [.int (nI 0)]) bf269_216 bf269_217 rfl rfl).trans ?_
  rfl
theorem bk269_127 {w : am_Wd} {l0 : Nat} {l1 : Int32} {l2 : Int32} {l3 : Int32} : am_run 269 127 [some (.ref l0), some (.int l1), some (.int l2), some (.int l3), none] [] w = if l2 < (nI 1) then am_run 269 216 [none, none, none, none, none] [] w else am_run 269 132 [some (.ref l0), some (.int l1), none, some (.int l3), none] [] w := by
  refine (bu (ls'' := [some (.ref l0), some (.int l1), none, some (.int l3), none]) (st' := [.int l2]) bf269_127 bf269_128 rfl rfl).trans ?_
  refine (bu (ls'' := [some (.ref l0), some (.int l1), none, some (.int l3), none]) (st' := [.int (nI 1), .int l2]) bf269_128 bf269_129 rfl rfl).trans ?_
  exact bic bf269_129 rfl bf269_216 bf269_132 rfl rfl rfl
theorem bk269_104 {w : am_Wd} {l0 : Nat} {l1 : Int32} {l2 : Int32} {l4 : Int32} {s0 : Int32} : am_run 269 104 [some (.ref l0), some (.int l1), some (.int l2), none, some (.int l4)] [.int s0] w = am_run 269 109 [some (.ref l0), some (.int l1), some (.int l2), none, some (.int l4)] [.int (nI 1), .int s0] w := by
  refine (bu (ls'' := [some (.ref l0), some (.int l1), some (.int l2), none, some (.int l4)]) (st' := [.int (nI 1), .int s0]) bf269_104 bf269_105 rfl rfl).trans ?_
  refine (bu (ls'' := [some (.ref l0), some (.int l1), some (.int l2), none, some (.int l4)]) (st' := [.int (nI 1), .int s0]) bf269_105 bf269_109 rfl rfl).trans ?_
  rfl
theorem bk269_62 {w : am_Wd} {l0 : Nat} {l1 : Int32} {l2 : Int32} {l4 : Int32} {s0 : Int32} : am_run 269 62 [some (.ref l0), some (.int l1), some (.int l2), none, some (.int l4)] [.int s0] w = (am_kf w l0 8).bind fun _ => (am_x 138 [.ref l0, .int l1, .int (((nI 4) * l4) + (nI 1))] w).bind fun r => bct r fun v w' => am_run 269 73 [some (.ref l0), some (.int l1), some (.int l2), none, some (.int l4)] (v.toList ++ [.int s0]) w' := by
  refine (bu (ls'' := [some (.ref l0), some (.int l1), some (.int l2), none, some (.int l4)]) (st' := [.ref l0, .int s0]) bf269_62 bf269_63 rfl rfl).trans ?_
  refine (bu (ls'' := [some (.ref l0), some (.int l1), some (.int l2), none, some (.int l4)]) (st' := [.int l1, .ref l0, .int s0]) bf269_63 bf269_64 rfl rfl).trans ?_
  refine (bu (ls'' := [some (.ref l0), some (.int l1), some (.int l2), none, some (.int l4)]) (st' := [.int (nI 4), .int l1, .ref l0, .int s0]) bf269_64 bf269_65 rfl rfl).trans ?_
  refine (bu (ls'' := [some (.ref l0), some (.int l1), some (.int l2), none, some (.int l4)]) (st' := [.int l4, .int (nI 4), .int l1, .ref l0, .int s0]) bf269_65 bf269_67 rfl rfl).trans ?_
  refine (bu (ls'' := [some (.ref l0), some (.int l1), some (.int l2), none, some (.int l4)]) (st' := [.int ((nI 4) * l4), .int l1, .ref l0, .int s0]) bf269_67 bf269_68 rfl rfl).trans ?_
  refine (bu (ls'' := [some (.ref l0), some (.int l1), some (.int l2), none, some (.int l4)]) (st' := [.int (nI 1), .int ((nI 4) * l4), .int l1, .ref l0, .int s0]) bf269_68 bf269_69 rfl rfl).trans ?_
  refine (bu (ls'' := [some (.ref l0), some (.int l1), some (.int l2), none, some (.int l4)]) (st' := [.int (((nI 4) * l4) + (nI 1)), .int l1, .ref l0, .int s0]) bf269_69 bf269_70 rfl rfl).trans ?_
  exact bkV bf269_70 bf269_73 rfl (by decide +kernel) (Nat.le_of_ble_eq_true rfl) rfl (bhd rfl)
theorem bk269_217 {w : am_Wd} {s0 : Int32} (hb : am_ok (am_rt 1) (.int s0) = true) : am_run 269 217 [none, none, none, none, none] [.int s0] w = some (.inl (some (.int s0)), w) := by
  exact am_e2 bf269_217 (by unfold am_stp; exact if_pos ⟨by decide, hb⟩) (am_ge_rf w)
theorem bk269_132 {w : am_Wd} {l0 : Nat} {l1 : Int32} {l3 : Int32} : am_run 269 132 [some (.ref l0), some (.int l1), none, some (.int l3), none] [] w = (am_kf w l0 8).bind fun _ => (am_x 91 [.ref l0, .int l1] w).bind fun r => bct r fun v w' => am_run 269 137 [some (.ref l0), some (.int l1), none, some (.int l3), none] (v.toList ++ []) w' := by
  refine (bu (ls'' := [some (.ref l0), some (.int l1), none, some (.int l3), none]) (st' := [.ref l0]) bf269_132 bf269_133 rfl rfl).trans ?_
  refine (bu (ls'' := [some (.ref l0), some (.int l1), none, some (.int l3), none]) (st' := [.int l1, .ref l0]) bf269_133 bf269_134 rfl rfl).trans ?_
  exact bkV bf269_134 bf269_137 rfl (by decide +kernel) (Nat.le_of_ble_eq_true rfl) rfl (bhd rfl)
theorem bk269_109 {w : am_Wd} {l0 : Nat} {l1 : Int32} {l2 : Int32} {l4 : Int32} {s0 : Int32} {s1 : Int32} : am_run 269 109 [some (.ref l0), some (.int l1), some (.int l2), none, some (.int l4)] [.int s0, .int s1] w = am_run 269 42 [some (.ref l0), some (.int l1), some (.int l2), some (.int (s1 + s0)), some (.int (l4 + (nI 1)))] [] w := by
  refine (bu (ls'' := [some (.ref l0), some (.int l1), some (.int l2), none, some (.int l4)]) (st' := [.int (s1 + s0)]) bf269_109 bf269_110 rfl rfl).trans ?_
  refine (bu (ls'' := [some (.ref l0), some (.int l1), some (.int l2), some (.int (s1 + s0)), some (.int l4)]) (st' := []) bf269_110 bf269_111 rfl rfl).trans ?_
  refine (bu (ls'' := [some (.ref l0), some (.int l1), some (.int l2), some (.int (s1 + s0)), some (.int (l4 + (nI 1)))]) (st' := []) bf269_111 bf269_114 rfl rfl).trans ?_
  refine (bu (ls'' := [some (.ref l0), some (.int l1), some (.int l2), some (.int (s1 + s0)), some (.int (l4 + (nI 1)))]) (st' := []) bf269_114 bf269_42 rfl rfl).trans ?_
  rfl
theorem bk269_73 {w : am_Wd} {l0 : Nat} {l1 : Int32} {l2 : Int32} {l4 : Int32} {s0 : Int32} {s1 : Int32} : am_run 269 73 [some (.ref l0), some (.int l1), some (.int l2), none, some (.int l4)] [.int s0, .int s1] w = if ¬ s0 = nI 0 then am_run 269 104 [some (.ref l0), some (.int l1), some (.int l2), none, some (.int l4)] [.int s1] w else am_run 269 76 [some (.ref l0), some (.int l1), some (.int l2), none, some (.int l4)] [.int s1] w := by
  exact bifc bf269_73 rfl bf269_104 bf269_76 rfl rfl rfl
theorem bk269_137 {w : am_Wd} {l0 : Nat} {l1 : Int32} {l3 : Int32} {s0 : UInt64} (hn : (FP.ddiv (FP.i2d l3) (4630263366890291200 : UInt64)) &&& 0x7fffffffffffffff ≤ 0x7ff0000000000000) : am_run 269 137 [some (.ref l0), some (.int l1), none, some (.int l3), none] [.double s0] w = am_run 269 143 [some (.ref l0), some (.int l1), none, none, none] [.double (FP.ddiv (FP.i2d l3) (4630263366890291200 : UInt64)), .double s0] w := by
  refine (bu (ls'' := [some (.ref l0), some (.int l1), none, none, none]) (st' := [.int l3, .double s0]) bf269_137 bf269_138 rfl rfl).trans ?_
  refine (bu (ls'' := [some (.ref l0), some (.int l1), none, none, none]) (st' := [.double (FP.i2d l3), .double s0]) bf269_138 bf269_139 rfl rfl).trans ?_
  refine (bu (ls'' := [some (.ref l0), some (.int l1), none, none, none]) (st' := [.double (4630263366890291200 : UInt64), .double (FP.i2d l3), .double s0]) bf269_139 bf269_142 rfl rfl).trans ?_
  exact bdd (h := inferInstance) bf269_142 bf269_143 (fun h => by unfold am_stp; exact if_pos h) rfl hn
theorem bk269_76 {w : am_Wd} {l0 : Nat} {l1 : Int32} {l2 : Int32} {l4 : Int32} {s0 : Int32} : am_run 269 76 [some (.ref l0), some (.int l1), some (.int l2), none, some (.int l4)] [.int s0] w = (am_kf w l0 8).bind fun _ => (am_x 138 [.ref l0, .int l1, .int (((nI 4) * l4) + (nI 2))] w).bind fun r => bct r fun v w' => am_run 269 87 [some (.ref l0), some (.int l1), some (.int l2), none, some (.int l4)] (v.toList ++ [.int s0]) w' := by
  refine (bu (ls'' := [some (.ref l0), some (.int l1), some (.int l2), none, some (.int l4)]) (st' := [.ref l0, .int s0]) bf269_76 bf269_77 rfl rfl).trans ?_
  refine (bu (ls'' := [some (.ref l0), some (.int l1), some (.int l2), none, some (.int l4)]) (st' := [.int l1, .ref l0, .int s0]) bf269_77 bf269_78 rfl rfl).trans ?_
  refine (bu (ls'' := [some (.ref l0), some (.int l1), some (.int l2), none, some (.int l4)]) (st' := [.int (nI 4), .int l1, .ref l0, .int s0]) bf269_78 bf269_79 rfl rfl).trans ?_
  refine (bu (ls'' := [some (.ref l0), some (.int l1), some (.int l2), none, some (.int l4)]) (st' := [.int l4, .int (nI 4), .int l1, .ref l0, .int s0]) bf269_79 bf269_81 rfl rfl).trans ?_
  refine (bu (ls'' := [some (.ref l0), some (.int l1), some (.int l2), none, some (.int l4)]) (st' := [.int ((nI 4) * l4), .int l1, .ref l0, .int s0]) bf269_81 bf269_82 rfl rfl).trans ?_
  refine (bu (ls'' := [some (.ref l0), some (.int l1), some (.int l2), none, some (.int l4)]) (st' := [.int (nI 2), .int ((nI 4) * l4), .int l1, .ref l0, .int s0]) bf269_82 bf269_83 rfl rfl).trans ?_
  refine (bu (ls'' := [some (.ref l0), some (.int l1), some (.int l2), none, some (.int l4)]) (st' := [.int (((nI 4) * l4) + (nI 2)), .int l1, .ref l0, .int s0]) bf269_83 bf269_84 rfl rfl).trans ?_
  exact bkV bf269_84 bf269_87 rfl (by decide +kernel) (Nat.le_of_ble_eq_true rfl) rfl (bhd rfl)
theorem bk269_143 {w : am_Wd} {l0 : Nat} {l1 : Int32} {s0 : UInt64} {s1 : UInt64} : am_run 269 143 [some (.ref l0), some (.int l1), none, none, none] [.double s0, .double s1] w = if ¬ (Op.cmpValue (FP.dcmp s1 s0) .l) = nI 0 then am_run 269 216 [none, none, none, none, none] [] w else am_run 269 147 [some (.ref l0), some (.int l1), none, none, none] [] w := by
  refine (bu (ls'' := [some (.ref l0), some (.int l1), none, none, none]) (st' := [.int (Op.cmpValue (FP.dcmp s1 s0) .l)]) bf269_143 bf269_144 rfl rfl).trans ?_
  exact bifc bf269_144 rfl bf269_216 bf269_147 rfl rfl rfl
theorem bk269_87 {w : am_Wd} {l0 : Nat} {l1 : Int32} {l2 : Int32} {l4 : Int32} {s0 : Int32} {s1 : Int32} : am_run 269 87 [some (.ref l0), some (.int l1), some (.int l2), none, some (.int l4)] [.int s0, .int s1] w = if ¬ s0 = nI 0 then am_run 269 104 [some (.ref l0), some (.int l1), some (.int l2), none, some (.int l4)] [.int s1] w else am_run 269 90 [some (.ref l0), some (.int l1), some (.int l2), none, some (.int l4)] [.int s1] w := by
  exact bifc bf269_87 rfl bf269_104 bf269_90 rfl rfl rfl
theorem bk269_147 {w : am_Wd} {l0 : Nat} {l1 : Int32} : am_run 269 147 [some (.ref l0), some (.int l1), none, none, none] [] w = (am_kf w l0 8).bind fun _ => (am_x 201 [.ref l0, .int l1, .int (nI 0)] w).bind fun r => bct r fun v w' => am_run 269 155 [some (.ref l0), some (.int l1), none, none, none] (v.toList ++ [.int l1, .ref l0]) w' := by
  refine (bu (ls'' := [some (.ref l0), some (.int l1), none, none, none]) (st' := [.ref l0]) bf269_147 bf269_148 rfl rfl).trans ?_
  refine (bu (ls'' := [some (.ref l0), some (.int l1), none, none, none]) (st' := [.int l1, .ref l0]) bf269_148 bf269_149 rfl rfl).trans ?_
  refine (bu (ls'' := [some (.ref l0), some (.int l1), none, none, none]) (st' := [.ref l0, .int l1, .ref l0]) bf269_149 bf269_150 rfl rfl).trans ?_
  refine (bu (ls'' := [some (.ref l0), some (.int l1), none, none, none]) (st' := [.int l1, .ref l0, .int l1, .ref l0]) bf269_150 bf269_151 rfl rfl).trans ?_
  refine (bu (ls'' := [some (.ref l0), some (.int l1), none, none, none]) (st' := [.int (nI 0), .int l1, .ref l0, .int l1, .ref l0]) bf269_151 bf269_152 rfl rfl).trans ?_
  exact bkV bf269_152 bf269_155 rfl (by decide +kernel) (Nat.le_of_ble_eq_true rfl) rfl (bhd rfl)
theorem bk269_90 {w : am_Wd} {l0 : Nat} {l1 : Int32} {l2 : Int32} {l4 : Int32} {s0 : Int32} : am_run 269 90 [some (.ref l0), some (.int l1), some (.int l2), none, some (.int l4)] [.int s0] w = (am_kf w l0 8).bind fun _ => (am_x 138 [.ref l0, .int l1, .int (((nI 4) * l4) + (nI 3))] w).bind fun r => bct r fun v w' => am_run 269 101 [some (.ref l0), some (.int l1), some (.int l2), none, some (.int l4)] (v.toList ++ [.int s0]) w' := by
  refine (bu (ls'' := [some (.ref l0), some (.int l1), some (.int l2), none, some (.int l4)]) (st' := [.ref l0, .int s0]) bf269_90 bf269_91 rfl rfl).trans ?_
  refine (bu (ls'' := [some (.ref l0), some (.int l1), some (.int l2), none, some (.int l4)]) (st' := [.int l1, .ref l0, .int s0]) bf269_91 bf269_92 rfl rfl).trans ?_
  refine (bu (ls'' := [some (.ref l0), some (.int l1), some (.int l2), none, some (.int l4)]) (st' := [.int (nI 4), .int l1, .ref l0, .int s0]) bf269_92 bf269_93 rfl rfl).trans ?_
  refine (bu (ls'' := [some (.ref l0), some (.int l1), some (.int l2), none, some (.int l4)]) (st' := [.int l4, .int (nI 4), .int l1, .ref l0, .int s0]) bf269_93 bf269_95 rfl rfl).trans ?_
  refine (bu (ls'' := [some (.ref l0), some (.int l1), some (.int l2), none, some (.int l4)]) (st' := [.int ((nI 4) * l4), .int l1, .ref l0, .int s0]) bf269_95 bf269_96 rfl rfl).trans ?_
  refine (bu (ls'' := [some (.ref l0), some (.int l1), some (.int l2), none, some (.int l4)]) (st' := [.int (nI 3), .int ((nI 4) * l4), .int l1, .ref l0, .int s0]) bf269_96 bf269_97 rfl rfl).trans ?_
  refine (bu (ls'' := [some (.ref l0), some (.int l1), some (.int l2), none, some (.int l4)]) (st' := [.int (((nI 4) * l4) + (nI 3)), .int l1, .ref l0, .int s0]) bf269_97 bf269_98 rfl rfl).trans ?_
  exact bkV bf269_98 bf269_101 rfl (by decide +kernel) (Nat.le_of_ble_eq_true rfl) rfl (bhd rfl)
theorem bk269_155 {w : am_Wd} {l0 : Nat} {l1 : Int32} {s0 : Int32} {s1 : Int32} {s2 : Nat} : am_run 269 155 [some (.ref l0), some (.int l1), none, none, none] [.int s0, .int s1, .ref s2] w = (am_kf w s2 8).bind fun _ => (am_x 138 [.ref s2, .int s1, .int s0] w).bind fun r => bct r fun v w' => am_run 269 158 [some (.ref l0), some (.int l1), none, none, none] (v.toList ++ []) w' := by
  exact bkV bf269_155 bf269_158 rfl (by decide +kernel) (Nat.le_of_ble_eq_true rfl) rfl (bhd rfl)
theorem bk269_101 {w : am_Wd} {l0 : Nat} {l1 : Int32} {l2 : Int32} {l4 : Int32} {s0 : Int32} {s1 : Int32} : am_run 269 101 [some (.ref l0), some (.int l1), some (.int l2), none, some (.int l4)] [.int s0, .int s1] w = if s0 = nI 0 then am_run 269 108 [some (.ref l0), some (.int l1), some (.int l2), none, some (.int l4)] [.int s1] w else am_run 269 104 [some (.ref l0), some (.int l1), some (.int l2), none, some (.int l4)] [.int s1] w := by
  exact bifc bf269_101 rfl bf269_108 bf269_104 rfl rfl rfl
theorem bk269_158 {w : am_Wd} {l0 : Nat} {l1 : Int32} {s0 : Int32} : am_run 269 158 [some (.ref l0), some (.int l1), none, none, none] [.int s0] w = if s0 = nI 0 then am_run 269 216 [none, none, none, none, none] [] w else am_run 269 161 [some (.ref l0), some (.int l1), none, none, none] [] w := by
  exact bifc bf269_158 rfl bf269_216 bf269_161 rfl rfl rfl
theorem bk269_108 {w : am_Wd} {l0 : Nat} {l1 : Int32} {l2 : Int32} {l4 : Int32} {s0 : Int32} : am_run 269 108 [some (.ref l0), some (.int l1), some (.int l2), none, some (.int l4)] [.int s0] w = am_run 269 109 [some (.ref l0), some (.int l1), some (.int l2), none, some (.int l4)] [.int (nI 0), .int s0] w := by
  refine (bu (ls'' := [some (.ref l0), some (.int l1), some (.int l2), none, some (.int l4)]) (st' := [.int (nI 0), .int s0]) bf269_108 bf269_109 rfl rfl).trans ?_
  rfl
theorem bk269_161 {w : am_Wd} {l0 : Nat} {l1 : Int32} : am_run 269 161 [some (.ref l0), some (.int l1), none, none, none] [] w = (am_kf w l0 8).bind fun _ => (am_x 201 [.ref l0, .int l1, .int (nI 9)] w).bind fun r => bct r fun v w' => am_run 269 168 [some (.ref l0), some (.int l1), none, none, none] (v.toList ++ []) w' := by
  refine (bu (ls'' := [some (.ref l0), some (.int l1), none, none, none]) (st' := [.ref l0]) bf269_161 bf269_162 rfl rfl).trans ?_
  refine (bu (ls'' := [some (.ref l0), some (.int l1), none, none, none]) (st' := [.int l1, .ref l0]) bf269_162 bf269_163 rfl rfl).trans ?_
  refine (bu (ls'' := [some (.ref l0), some (.int l1), none, none, none]) (st' := [.int (nI 9), .int l1, .ref l0]) bf269_163 bf269_165 rfl rfl).trans ?_
  exact bkV bf269_165 bf269_168 rfl (by decide +kernel) (Nat.le_of_ble_eq_true rfl) rfl (bhd rfl)
theorem bk269_168 {w : am_Wd} {l0 : Nat} {l1 : Int32} {s0 : Int32} : am_run 269 168 [some (.ref l0), some (.int l1), none, none, none] [.int s0] w = if ¬ s0 = nI 0 then am_run 269 216 [none, none, none, none, none] [] w else am_run 269 171 [some (.ref l0), some (.int l1), none, none, none] [] w := by
  exact bifc bf269_168 rfl bf269_216 bf269_171 rfl rfl rfl
theorem bk269_171 {w : am_Wd} {l0 : Nat} {l1 : Int32} : am_run 269 171 [some (.ref l0), some (.int l1), none, none, none] [] w = (am_kf w l0 8).bind fun _ => (am_x 201 [.ref l0, .int l1, .int (nI 8)] w).bind fun r => bct r fun v w' => am_run 269 178 [some (.ref l0), some (.int l1), none, none, none] (v.toList ++ []) w' := by
  refine (bu (ls'' := [some (.ref l0), some (.int l1), none, none, none]) (st' := [.ref l0]) bf269_171 bf269_172 rfl rfl).trans ?_
  refine (bu (ls'' := [some (.ref l0), some (.int l1), none, none, none]) (st' := [.int l1, .ref l0]) bf269_172 bf269_173 rfl rfl).trans ?_
  refine (bu (ls'' := [some (.ref l0), some (.int l1), none, none, none]) (st' := [.int (nI 8), .int l1, .ref l0]) bf269_173 bf269_175 rfl rfl).trans ?_
  exact bkV bf269_175 bf269_178 rfl (by decide +kernel) (Nat.le_of_ble_eq_true rfl) rfl (bhd rfl)
theorem bk269_178 {w : am_Wd} {l0 : Nat} {l1 : Int32} {s0 : Int32} : am_run 269 178 [some (.ref l0), some (.int l1), none, none, none] [.int s0] w = if ¬ s0 = nI 0 then am_run 269 216 [none, none, none, none, none] [] w else am_run 269 181 [some (.ref l0), some (.int l1), none, none, none] [] w := by
  exact bifc bf269_178 rfl bf269_216 bf269_181 rfl rfl rfl
theorem bk269_181 {w : am_Wd} {l0 : Nat} {l1 : Int32} : am_run 269 181 [some (.ref l0), some (.int l1), none, none, none] [] w = (am_kf w l0 8).bind fun _ => (am_x 201 [.ref l0, .int l1, .int (nI 7)] w).bind fun r => bct r fun v w' => am_run 269 188 [some (.ref l0), some (.int l1), none, none, none] (v.toList ++ []) w' := by
  refine (bu (ls'' := [some (.ref l0), some (.int l1), none, none, none]) (st' := [.ref l0]) bf269_181 bf269_182 rfl rfl).trans ?_
  refine (bu (ls'' := [some (.ref l0), some (.int l1), none, none, none]) (st' := [.int l1, .ref l0]) bf269_182 bf269_183 rfl rfl).trans ?_
  refine (bu (ls'' := [some (.ref l0), some (.int l1), none, none, none]) (st' := [.int (nI 7), .int l1, .ref l0]) bf269_183 bf269_185 rfl rfl).trans ?_
  exact bkV bf269_185 bf269_188 rfl (by decide +kernel) (Nat.le_of_ble_eq_true rfl) rfl (bhd rfl)
theorem bk269_188 {w : am_Wd} {l0 : Nat} {l1 : Int32} {s0 : Int32} : am_run 269 188 [some (.ref l0), some (.int l1), none, none, none] [.int s0] w = (am_kf w l0 8).bind fun _ => (am_x 201 [.ref l0, .int l1, .int (nI 5)] w).bind fun r => bct r fun v w' => am_run 269 194 [some (.ref l0), some (.int l1), none, none, none] (v.toList ++ [.int s0]) w' := by
  refine (bu (ls'' := [some (.ref l0), some (.int l1), none, none, none]) (st' := [.ref l0, .int s0]) bf269_188 bf269_189 rfl rfl).trans ?_
  refine (bu (ls'' := [some (.ref l0), some (.int l1), none, none, none]) (st' := [.int l1, .ref l0, .int s0]) bf269_189 bf269_190 rfl rfl).trans ?_
  refine (bu (ls'' := [some (.ref l0), some (.int l1), none, none, none]) (st' := [.int (nI 5), .int l1, .ref l0, .int s0]) bf269_190 bf269_191 rfl rfl).trans ?_
  exact bkV bf269_191 bf269_194 rfl (by decide +kernel) (Nat.le_of_ble_eq_true rfl) rfl (bhd rfl)
theorem bk269_194 {w : am_Wd} {l0 : Nat} {l1 : Int32} {s0 : Int32} {s1 : Int32} : am_run 269 194 [some (.ref l0), some (.int l1), none, none, none] [.int s0, .int s1] w = (am_kf w l0 8).bind fun _ => (am_x 201 [.ref l0, .int l1, .int (nI 6)] w).bind fun r => bct r fun v w' => am_run 269 201 [some (.ref l0), none, none, none, none] (v.toList ++ [.int s0, .int s1]) w' := by
  refine (bu (ls'' := [some (.ref l0), some (.int l1), none, none, none]) (st' := [.ref l0, .int s0, .int s1]) bf269_194 bf269_195 rfl rfl).trans ?_
  refine (bu (ls'' := [some (.ref l0), none, none, none, none]) (st' := [.int l1, .ref l0, .int s0, .int s1]) bf269_195 bf269_196 rfl rfl).trans ?_
  refine (bu (ls'' := [some (.ref l0), none, none, none, none]) (st' := [.int (nI 6), .int l1, .ref l0, .int s0, .int s1]) bf269_196 bf269_198 rfl rfl).trans ?_
  exact bkV bf269_198 bf269_201 rfl (by decide +kernel) (Nat.le_of_ble_eq_true rfl) rfl (bhd rfl)
theorem bk269_201 {w : am_Wd} {l0 : Nat} {s0 : Int32} {s1 : Int32} {s2 : Int32} : am_run 269 201 [some (.ref l0), none, none, none, none] [.int s0, .int s1, .int s2] w = if ¬ s2 = (s1 + s0) then am_run 269 216 [none, none, none, none, none] [] w else am_run 269 205 [some (.ref l0), none, none, none, none] [] w := by
  refine (bu (ls'' := [some (.ref l0), none, none, none, none]) (st' := [.int (s1 + s0), .int s2]) bf269_201 bf269_202 rfl rfl).trans ?_
  exact bic bf269_202 rfl bf269_216 bf269_205 rfl rfl rfl
theorem bk269_205 {w : am_Wd} {l0 : Nat} : am_run 269 205 [some (.ref l0), none, none, none, none] [] w = (am_kf w l0 8).bind fun _ => (am_x 224 [.ref l0] w).bind fun r => bct r fun v w' => am_run 269 209 [none, none, none, none, none] (v.toList ++ []) w' := by
  refine (bu (ls'' := [none, none, none, none, none]) (st' := [.ref l0]) bf269_205 bf269_206 rfl rfl).trans ?_
  exact bkV bf269_206 bf269_209 rfl (by decide +kernel) (Nat.le_of_ble_eq_true rfl) rfl (bhd rfl)
theorem bk269_209 {w : am_Wd} {s0 : Int32} : am_run 269 209 [none, none, none, none, none] [.int s0] w = if s0 = nI 0 then am_run 269 216 [none, none, none, none, none] [] w else am_run 269 212 [none, none, none, none, none] [] w := by
  exact bifc bf269_209 rfl bf269_216 bf269_212 rfl rfl rfl
theorem bk269_212 {w : am_Wd}  : am_run 269 212 [none, none, none, none, none] [] w = am_run 269 217 [none, none, none, none, none] [.int (nI 1)] w := by
  refine (bu (ls'' := [none, none, none, none, none]) (st' := [.int (nI 1)]) bf269_212 bf269_213 rfl rfl).trans ?_
  refine (bu (ls'' := [none, none, none, none, none]) (st' := [.int (nI 1)]) bf269_213 bf269_217 rfl rfl).trans ?_
  rfl
theorem bf270_0 : am_fetch (am_mth 270) 0 = some (.new 9, 3, [0, 8, 9, 31, 32, 17], [1, 2, 3, 4, 5, 6, 7, 8, 9, 10, 11]) := by decide +kernel
theorem bf270_3 : am_fetch (am_mth 270) 3 = some (.dup, 1, [], [1, 2, 3, 4, 5, 6, 7, 8, 9, 10, 11]) := by decide +kernel
theorem bf270_4 : am_fetch (am_mth 270) 4 = some (.invokespecial 11, 3, [0, 89, 0, 33, 34, 17], [1, 2, 3, 4, 5, 6, 7, 8, 9, 10, 11]) := by decide +kernel
theorem bf270_7 : am_fetch (am_mth 270) 7 = some (.astore_n 1, 1, [], [1, 2, 3, 4, 5, 6, 7, 8, 9, 10, 11]) := by decide +kernel
theorem bf270_8 : am_fetch (am_mth 270) 8 = some (.aload_n 1, 1, [], [2, 3, 4, 5, 6, 7, 8, 9, 10, 11]) := by decide +kernel
theorem bf270_9 : am_fetch (am_mth 270) 9 = some (.aload_n 0, 1, [], [2, 3, 4, 5, 6, 7, 8, 9, 10, 11]) := by decide +kernel
theorem bf270_10 : am_fetch (am_mth 270) 10 = some (.iconst 0, 1, [], [2, 3, 4, 5, 6, 7, 8, 9, 10, 11]) := by decide +kernel
theorem bf270_11 : am_fetch (am_mth 270) 11 = some (.invokestatic 12, 3, [0, 267, 2, 569, 570, 16], [2, 3, 4, 5, 6, 7, 8, 9, 10, 11]) := by decide +kernel
theorem bf270_14 : am_fetch (am_mth 270) 14 = some (.bipush 127, 2, [], [2, 3, 4, 5, 6, 7, 8, 9, 10, 11]) := by decide +kernel
theorem bf270_16 : am_fetch (am_mth 270) 16 = some (.invokestatic 18, 3, [0, 266, 2, 565, 566, 16], [2, 3, 4, 5, 6, 7, 8, 9, 10, 11]) := by decide +kernel
theorem bf270_19 : am_fetch (am_mth 270) 19 = some (.invokevirtual 22, 3, [0, 200, 1, 8, 91, 92, 93, 17], [2, 3, 4, 5, 6, 7, 8, 9, 10, 11]) := by decide +kernel
theorem bf270_22 : am_fetch (am_mth 270) 22 = some (.pop, 1, [], [2, 3, 4, 5, 6, 7, 8, 9, 10, 11]) := by decide +kernel
theorem bf270_23 : am_fetch (am_mth 270) 23 = some (.iconst 0, 1, [], [2, 3, 4, 5, 6, 7, 8, 9, 10, 11]) := by decide +kernel
theorem bf270_24 : am_fetch (am_mth 270) 24 = some (.istore_n 2, 1, [], [2, 3, 4, 5, 6, 7, 8, 9, 10, 11]) := by decide +kernel
theorem bf270_25 : am_fetch (am_mth 270) 25 = some (.iload_n 2, 1, [], [3, 4, 5, 6, 7, 8, 9, 10, 11]) := by decide +kernel
theorem bf270_26 : am_fetch (am_mth 270) 26 = some (.bipush 8, 2, [], [3, 4, 5, 6, 7, 8, 9, 10, 11]) := by decide +kernel
theorem bf270_28 : am_fetch (am_mth 270) 28 = some (.if_icmp .ge 48, 3, [], [3, 4, 5, 6, 7, 8, 9, 10, 11]) := by decide +kernel
theorem bf270_31 : am_fetch (am_mth 270) 31 = some (.aload_n 1, 1, [], [3, 4, 5, 6, 7, 8, 9, 10, 11]) := by decide +kernel
theorem bf270_32 : am_fetch (am_mth 270) 32 = some (.aload_n 0, 1, [], [3, 4, 5, 6, 7, 8, 9, 10, 11]) := by decide +kernel
theorem bf270_33 : am_fetch (am_mth 270) 33 = some (.iload_n 2, 1, [], [3, 4, 5, 6, 7, 8, 9, 10, 11]) := by decide +kernel
theorem bf270_34 : am_fetch (am_mth 270) 34 = some (.invokestatic 12, 3, [0, 267, 2, 569, 570, 16], [3, 4, 5, 6, 7, 8, 9, 10, 11]) := by decide +kernel
theorem bf270_37 : am_fetch (am_mth 270) 37 = some (.iconst 5, 1, [], [3, 4, 5, 6, 7, 8, 9, 10, 11]) := by decide +kernel
theorem bf270_38 : am_fetch (am_mth 270) 38 = some (.iload_n 2, 1, [], [3, 4, 5, 6, 7, 8, 9, 10, 11]) := by decide +kernel
theorem bf270_39 : am_fetch (am_mth 270) 39 = some (.imul, 1, [], [3, 4, 5, 6, 7, 8, 9, 10, 11]) := by decide +kernel
theorem bf270_40 : am_fetch (am_mth 270) 40 = some (.iadd, 1, [], [3, 4, 5, 6, 7, 8, 9, 10, 11]) := by decide +kernel
theorem bf270_41 : am_fetch (am_mth 270) 41 = some (.bipush 36, 2, [], [3, 4, 5, 6, 7, 8, 9, 10, 11]) := by decide +kernel
theorem bf270_43 : am_fetch (am_mth 270) 43 = some (.invokestatic 18, 3, [0, 266, 2, 565, 566, 16], [3, 4, 5, 6, 7, 8, 9, 10, 11]) := by decide +kernel
theorem bf270_46 : am_fetch (am_mth 270) 46 = some (.iconst 1, 1, [], [3, 4, 5, 6, 7, 8, 9, 10, 11]) := by decide +kernel
theorem bf270_47 : am_fetch (am_mth 270) 47 = some (.aload_n 0, 1, [], [3, 4, 5, 6, 7, 8, 9, 10, 11]) := by decide +kernel
theorem bf270_48 : am_fetch (am_mth 270) 48 = some (.iload_n 2, 1, [], [3, 4, 5, 6, 7, 8, 9, 10, 11]) := by decide +kernel
theorem bf270_49 : am_fetch (am_mth 270) 49 = some (.iconst 4, 1, [], [3, 4, 5, 6, 7, 8, 9, 10, 11]) := by decide +kernel
theorem bf270_50 : am_fetch (am_mth 270) 50 = some (.iadd, 1, [], [3, 4, 5, 6, 7, 8, 9, 10, 11]) := by decide +kernel
theorem bf270_51 : am_fetch (am_mth 270) 51 = some (.invokestatic 12, 3, [0, 267, 2, 569, 570, 16], [3, 4, 5, 6, 7, 8, 9, 10, 11]) := by decide +kernel
theorem bf270_54 : am_fetch (am_mth 270) 54 = some (.iconst 3, 1, [], [3, 4, 5, 6, 7, 8, 9, 10, 11]) := by decide +kernel
theorem bf270_55 : am_fetch (am_mth 270) 55 = some (.invokestatic 18, 3, [0, 266, 2, 565, 566, 16], [3, 4, 5, 6, 7, 8, 9, 10, 11]) := by decide +kernel
theorem bf270_58 : am_fetch (am_mth 270) 58 = some (.ifCond .ne 7, 3, [], [3, 4, 5, 6, 7, 8, 9, 10, 11]) := by decide +kernel
theorem bf270_61 : am_fetch (am_mth 270) 61 = some (.iconst 1, 1, [], [3, 4, 5, 6, 7, 8, 9, 10, 11]) := by decide +kernel
theorem bf270_62 : am_fetch (am_mth 270) 62 = some (.goto 4, 3, [], [3, 4, 5, 6, 7, 8, 9, 10, 11]) := by decide +kernel
theorem bf270_65 : am_fetch (am_mth 270) 65 = some (.iconst 0, 1, [], [3, 4, 5, 6, 7, 8, 9, 10, 11]) := by decide +kernel
theorem bf270_66 : am_fetch (am_mth 270) 66 = some (.invokevirtual 26, 3, [0, 90, 3, 8, 196, 197, 198, 17], [3, 4, 5, 6, 7, 8, 9, 10, 11]) := by decide +kernel
theorem bf270_69 : am_fetch (am_mth 270) 69 = some (.pop, 1, [], [3, 4, 5, 6, 7, 8, 9, 10, 11]) := by decide +kernel
theorem bf270_70 : am_fetch (am_mth 270) 70 = some (.iinc 2 1, 3, [], [3, 4, 5, 6, 7, 8, 9, 10, 11]) := by decide +kernel
theorem bf270_73 : am_fetch (am_mth 270) 73 = some (.goto (-48), 3, [], [3, 4, 5, 6, 7, 8, 9, 10, 11]) := by decide +kernel
theorem bf270_76 : am_fetch (am_mth 270) 76 = some (.iconst 1, 1, [], [2, 3, 4, 5, 6, 7, 8, 9, 10, 11]) := by decide +kernel
theorem bf270_77 : am_fetch (am_mth 270) 77 = some (.aload_n 0, 1, [], [2, 3, 4, 5, 6, 7, 8, 9, 10, 11]) := by decide +kernel
theorem bf270_78 : am_fetch (am_mth 270) 78 = some (.iconst 1, 1, [], [2, 3, 4, 5, 6, 7, 8, 9, 10, 11]) := by decide +kernel
theorem bf270_79 : am_fetch (am_mth 270) 79 = some (.invokestatic 12, 3, [0, 267, 2, 569, 570, 16], [2, 3, 4, 5, 6, 7, 8, 9, 10, 11]) := by decide +kernel
theorem bf270_82 : am_fetch (am_mth 270) 82 = some (.iconst 3, 1, [], [2, 3, 4, 5, 6, 7, 8, 9, 10, 11]) := by decide +kernel
theorem bf270_83 : am_fetch (am_mth 270) 83 = some (.invokestatic 18, 3, [0, 266, 2, 565, 566, 16], [2, 3, 4, 5, 6, 7, 8, 9, 10, 11]) := by decide +kernel
theorem bf270_86 : am_fetch (am_mth 270) 86 = some (.iadd, 1, [], [2, 3, 4, 5, 6, 7, 8, 9, 10, 11]) := by decide +kernel
theorem bf270_87 : am_fetch (am_mth 270) 87 = some (.istore_n 2, 1, [], [2, 3, 4, 5, 6, 7, 8, 9, 10, 11]) := by decide +kernel
theorem bf270_88 : am_fetch (am_mth 270) 88 = some (.iconst 0, 1, [], [3, 4, 5, 6, 7, 8, 9, 10, 11]) := by decide +kernel
theorem bf270_89 : am_fetch (am_mth 270) 89 = some (.istore_n 3, 1, [], [3, 4, 5, 6, 7, 8, 9, 10, 11]) := by decide +kernel
theorem bf270_90 : am_fetch (am_mth 270) 90 = some (.iload_n 3, 1, [], [4, 5, 6, 7, 8, 9, 10, 11]) := by decide +kernel
theorem bf270_91 : am_fetch (am_mth 270) 91 = some (.iload_n 2, 1, [], [4, 5, 6, 7, 8, 9, 10, 11]) := by decide +kernel
theorem bf270_92 : am_fetch (am_mth 270) 92 = some (.if_icmp .ge 78, 3, [], [4, 5, 6, 7, 8, 9, 10, 11]) := by decide +kernel
theorem bf270_95 : am_fetch (am_mth 270) 95 = some (.aload_n 1, 1, [], [4, 5, 6, 7, 8, 9, 10, 11]) := by decide +kernel
theorem bf270_96 : am_fetch (am_mth 270) 96 = some (.aload_n 0, 1, [], [4, 5, 6, 7, 8, 9, 10, 11]) := by decide +kernel
theorem bf270_97 : am_fetch (am_mth 270) 97 = some (.iload_n 3, 1, [], [4, 5, 6, 7, 8, 9, 10, 11]) := by decide +kernel
theorem bf270_98 : am_fetch (am_mth 270) 98 = some (.iconst 2, 1, [], [4, 5, 6, 7, 8, 9, 10, 11]) := by decide +kernel
theorem bf270_99 : am_fetch (am_mth 270) 99 = some (.iadd, 1, [], [4, 5, 6, 7, 8, 9, 10, 11]) := by decide +kernel
theorem bf270_100 : am_fetch (am_mth 270) 100 = some (.invokestatic 12, 3, [0, 267, 2, 569, 570, 16], [4, 5, 6, 7, 8, 9, 10, 11]) := by decide +kernel
theorem bf270_103 : am_fetch (am_mth 270) 103 = some (.bipush 36, 2, [], [4, 5, 6, 7, 8, 9, 10, 11]) := by decide +kernel
theorem bf270_105 : am_fetch (am_mth 270) 105 = some (.invokestatic 18, 3, [0, 266, 2, 565, 566, 16], [4, 5, 6, 7, 8, 9, 10, 11]) := by decide +kernel
theorem bf270_108 : am_fetch (am_mth 270) 108 = some (.aload_n 0, 1, [], [4, 5, 6, 7, 8, 9, 10, 11]) := by decide +kernel
theorem bf270_109 : am_fetch (am_mth 270) 109 = some (.iload_n 3, 1, [], [4, 5, 6, 7, 8, 9, 10, 11]) := by decide +kernel
theorem bf270_110 : am_fetch (am_mth 270) 110 = some (.iconst 3, 1, [], [4, 5, 6, 7, 8, 9, 10, 11]) := by decide +kernel
theorem bf270_111 : am_fetch (am_mth 270) 111 = some (.iadd, 1, [], [4, 5, 6, 7, 8, 9, 10, 11]) := by decide +kernel
theorem bf270_112 : am_fetch (am_mth 270) 112 = some (.invokestatic 12, 3, [0, 267, 2, 569, 570, 16], [4, 5, 6, 7, 8, 9, 10, 11]) := by decide +kernel
theorem bf270_115 : am_fetch (am_mth 270) 115 = some (.iconst 4, 1, [], [4, 5, 6, 7, 8, 9, 10, 11]) := by decide +kernel
theorem bf270_116 : am_fetch (am_mth 270) 116 = some (.invokestatic 18, 3, [0, 266, 2, 565, 566, 16], [4, 5, 6, 7, 8, 9, 10, 11]) := by decide +kernel
theorem bf270_119 : am_fetch (am_mth 270) 119 = some (.bipush 30, 2, [], [4, 5, 6, 7, 8, 9, 10, 11]) := by decide +kernel
theorem bf270_121 : am_fetch (am_mth 270) 121 = some (.aload_n 0, 1, [], [4, 5, 6, 7, 8, 9, 10, 11]) := by decide +kernel
theorem bf270_122 : am_fetch (am_mth 270) 122 = some (.iload_n 3, 1, [], [4, 5, 6, 7, 8, 9, 10, 11]) := by decide +kernel
theorem bf270_123 : am_fetch (am_mth 270) 123 = some (.iconst 5, 1, [], [4, 5, 6, 7, 8, 9, 10, 11]) := by decide +kernel
theorem bf270_124 : am_fetch (am_mth 270) 124 = some (.iadd, 1, [], [4, 5, 6, 7, 8, 9, 10, 11]) := by decide +kernel
theorem bf270_125 : am_fetch (am_mth 270) 125 = some (.invokestatic 12, 3, [0, 267, 2, 569, 570, 16], [4, 5, 6, 7, 8, 9, 10, 11]) := by decide +kernel
theorem bf270_128 : am_fetch (am_mth 270) 128 = some (.sipush 400, 3, [], [4, 5, 6, 7, 8, 9, 10, 11]) := by decide +kernel
theorem bf270_131 : am_fetch (am_mth 270) 131 = some (.invokestatic 18, 3, [0, 266, 2, 565, 566, 16], [4, 5, 6, 7, 8, 9, 10, 11]) := by decide +kernel
theorem bf270_134 : am_fetch (am_mth 270) 134 = some (.iadd, 1, [], [4, 5, 6, 7, 8, 9, 10, 11]) := by decide +kernel
theorem bf270_135 : am_fetch (am_mth 270) 135 = some (.aload_n 0, 1, [], [4, 5, 6, 7, 8, 9, 10, 11]) := by decide +kernel
theorem bf270_136 : am_fetch (am_mth 270) 136 = some (.iload_n 3, 1, [], [4, 5, 6, 7, 8, 9, 10, 11]) := by decide +kernel
theorem bf270_137 : am_fetch (am_mth 270) 137 = some (.bipush 6, 2, [], [4, 5, 6, 7, 8, 9, 10, 11]) := by decide +kernel
theorem bf270_139 : am_fetch (am_mth 270) 139 = some (.iadd, 1, [], [4, 5, 6, 7, 8, 9, 10, 11]) := by decide +kernel
theorem bf270_140 : am_fetch (am_mth 270) 140 = some (.invokestatic 12, 3, [0, 267, 2, 569, 570, 16], [4, 5, 6, 7, 8, 9, 10, 11]) := by decide +kernel
theorem bf270_143 : am_fetch (am_mth 270) 143 = some (.iconst 3, 1, [], [4, 5, 6, 7, 8, 9, 10, 11]) := by decide +kernel
theorem bf270_144 : am_fetch (am_mth 270) 144 = some (.invokestatic 18, 3, [0, 266, 2, 565, 566, 16], [4, 5, 6, 7, 8, 9, 10, 11]) := by decide +kernel
theorem bf270_147 : am_fetch (am_mth 270) 147 = some (.ifCond .le 7, 3, [], [4, 5, 6, 7, 8, 9, 10, 11]) := by decide +kernel
theorem bf270_150 : am_fetch (am_mth 270) 150 = some (.iconst 1, 1, [], [4, 5, 6, 7, 8, 9, 10, 11]) := by decide +kernel
theorem bf270_151 : am_fetch (am_mth 270) 151 = some (.goto 4, 3, [], [4, 5, 6, 7, 8, 9, 10, 11]) := by decide +kernel
theorem bf270_154 : am_fetch (am_mth 270) 154 = some (.iconst 0, 1, [], [4, 5, 6, 7, 8, 9, 10, 11]) := by decide +kernel
theorem bf270_155 : am_fetch (am_mth 270) 155 = some (.invokevirtual 29, 3, [0, 167, 4, 8, 230, 231, 232, 17], [4, 5, 6, 7, 8, 9, 10, 11]) := by decide +kernel
theorem bf270_158 : am_fetch (am_mth 270) 158 = some (.iload_n 3, 1, [], [4, 5, 6, 7, 8, 9, 10, 11]) := by decide +kernel
theorem bf270_159 : am_fetch (am_mth 270) 159 = some (.if_icmp .eq 5, 3, [], [4, 5, 6, 7, 8, 9, 10, 11]) := by decide +kernel
theorem bf270_162 : am_fetch (am_mth 270) 162 = some (.iconst 0, 1, [], [0, 1, 2, 3, 4, 5, 6, 7, 8, 9, 10, 11]) := by decide +kernel
theorem bf270_163 : am_fetch (am_mth 270) 163 = some (.ireturn, 1, [1], [0, 1, 2, 3, 4, 5, 6, 7, 8, 9, 10, 11]) := by decide +kernel
theorem bf270_164 : am_fetch (am_mth 270) 164 = some (.iinc 3 1, 3, [], [4, 5, 6, 7, 8, 9, 10, 11]) := by decide +kernel
theorem bf270_167 : am_fetch (am_mth 270) 167 = some (.goto (-77), 3, [], [4, 5, 6, 7, 8, 9, 10, 11]) := by decide +kernel
theorem bf270_170 : am_fetch (am_mth 270) 170 = some (.iconst 0, 1, [], [3, 4, 5, 6, 7, 8, 9, 10, 11]) := by decide +kernel
theorem bf270_171 : am_fetch (am_mth 270) 171 = some (.istore_n 3, 1, [], [3, 4, 5, 6, 7, 8, 9, 10, 11]) := by decide +kernel
theorem bf270_172 : am_fetch (am_mth 270) 172 = some (.iload_n 3, 1, [], [4, 5, 6, 7, 8, 9, 10, 11]) := by decide +kernel
theorem bf270_173 : am_fetch (am_mth 270) 173 = some (.bipush 60, 2, [], [4, 5, 6, 7, 8, 9, 10, 11]) := by decide +kernel
theorem bf270_175 : am_fetch (am_mth 270) 175 = some (.if_icmp .ge 257, 3, [], [4, 5, 6, 7, 8, 9, 10, 11]) := by decide +kernel
theorem bf270_178 : am_fetch (am_mth 270) 178 = some (.aload_n 0, 1, [], [4, 5, 6, 7, 8, 9, 10, 11]) := by decide +kernel
theorem bf270_179 : am_fetch (am_mth 270) 179 = some (.iload_n 3, 1, [], [4, 5, 6, 7, 8, 9, 10, 11]) := by decide +kernel
theorem bf270_180 : am_fetch (am_mth 270) 180 = some (.bipush 16, 2, [], [4, 5, 6, 7, 8, 9, 10, 11]) := by decide +kernel
theorem bf270_182 : am_fetch (am_mth 270) 182 = some (.irem, 1, [], [4, 5, 6, 7, 8, 9, 10, 11]) := by decide +kernel
theorem bf270_183 : am_fetch (am_mth 270) 183 = some (.invokestatic 12, 3, [0, 267, 2, 569, 570, 16], [4, 5, 6, 7, 8, 9, 10, 11]) := by decide +kernel
theorem bf270_186 : am_fetch (am_mth 270) 186 = some (.bipush 31, 2, [], [4, 5, 6, 7, 8, 9, 10, 11]) := by decide +kernel
theorem bf270_188 : am_fetch (am_mth 270) 188 = some (.iload_n 3, 1, [], [4, 5, 6, 7, 8, 9, 10, 11]) := by decide +kernel
theorem bf270_189 : am_fetch (am_mth 270) 189 = some (.imul, 1, [], [4, 5, 6, 7, 8, 9, 10, 11]) := by decide +kernel
theorem bf270_190 : am_fetch (am_mth 270) 190 = some (.iadd, 1, [], [4, 5, 6, 7, 8, 9, 10, 11]) := by decide +kernel
theorem bf270_191 : am_fetch (am_mth 270) 191 = some (.istore 4, 2, [], [4, 5, 6, 7, 8, 9, 10, 11]) := by decide +kernel
theorem bf270_193 : am_fetch (am_mth 270) 193 = some (.aload_n 0, 1, [], [5, 6, 7, 8, 9, 10, 11]) := by decide +kernel
theorem bf270_194 : am_fetch (am_mth 270) 194 = some (.bipush 7, 2, [], [5, 6, 7, 8, 9, 10, 11]) := by decide +kernel
theorem bf270_196 : am_fetch (am_mth 270) 196 = some (.iload_n 3, 1, [], [5, 6, 7, 8, 9, 10, 11]) := by decide +kernel
theorem bf270_197 : am_fetch (am_mth 270) 197 = some (.imul, 1, [], [5, 6, 7, 8, 9, 10, 11]) := by decide +kernel
theorem bf270_198 : am_fetch (am_mth 270) 198 = some (.iconst 3, 1, [], [5, 6, 7, 8, 9, 10, 11]) := by decide +kernel
theorem bf270_199 : am_fetch (am_mth 270) 199 = some (.iadd, 1, [], [5, 6, 7, 8, 9, 10, 11]) := by decide +kernel
theorem bf270_200 : am_fetch (am_mth 270) 200 = some (.bipush 16, 2, [], [5, 6, 7, 8, 9, 10, 11]) := by decide +kernel
theorem bf270_202 : am_fetch (am_mth 270) 202 = some (.irem, 1, [], [5, 6, 7, 8, 9, 10, 11]) := by decide +kernel
theorem bf270_203 : am_fetch (am_mth 270) 203 = some (.invokestatic 12, 3, [0, 267, 2, 569, 570, 16], [5, 6, 7, 8, 9, 10, 11]) := by decide +kernel
theorem bf270_206 : am_fetch (am_mth 270) 206 = some (.iconst 5, 1, [], [5, 6, 7, 8, 9, 10, 11]) := by decide +kernel
theorem bf270_207 : am_fetch (am_mth 270) 207 = some (.iload_n 3, 1, [], [5, 6, 7, 8, 9, 10, 11]) := by decide +kernel
theorem bf270_208 : am_fetch (am_mth 270) 208 = some (.imul, 1, [], [5, 6, 7, 8, 9, 10, 11]) := by decide +kernel
theorem bf270_209 : am_fetch (am_mth 270) 209 = some (.iadd, 1, [], [5, 6, 7, 8, 9, 10, 11]) := by decide +kernel
theorem bf270_210 : am_fetch (am_mth 270) 210 = some (.istore 5, 2, [], [5, 6, 7, 8, 9, 10, 11]) := by decide +kernel
theorem bf270_212 : am_fetch (am_mth 270) 212 = some (.iload 5, 2, [], [6, 7, 8, 9, 10, 11]) := by decide +kernel
theorem bf270_214 : am_fetch (am_mth 270) 214 = some (.iload_n 2, 1, [], [6, 7, 8, 9, 10, 11]) := by decide +kernel
theorem bf270_215 : am_fetch (am_mth 270) 215 = some (.invokestatic 18, 3, [0, 266, 2, 565, 566, 16], [6, 7, 8, 9, 10, 11]) := by decide +kernel
theorem bf270_218 : am_fetch (am_mth 270) 218 = some (.istore 6, 2, [], [6, 7, 8, 9, 10, 11]) := by decide +kernel
theorem bf270_220 : am_fetch (am_mth 270) 220 = some (.bipush 13, 2, [], [7, 8, 9, 10, 11]) := by decide +kernel
theorem bf270_222 : am_fetch (am_mth 270) 222 = some (.newarray .int, 2, [0, 60], [7, 8, 9, 10, 11]) := by decide +kernel
theorem bf270_224 : am_fetch (am_mth 270) 224 = some (.astore 7, 2, [], [7, 8, 9, 10, 11]) := by decide +kernel
theorem bf270_226 : am_fetch (am_mth 270) 226 = some (.iconst 0, 1, [], [8, 9, 10, 11]) := by decide +kernel
theorem bf270_227 : am_fetch (am_mth 270) 227 = some (.istore 8, 2, [], [8, 9, 10, 11]) := by decide +kernel
theorem bf270_229 : am_fetch (am_mth 270) 229 = some (.iload 8, 2, [], [9, 10, 11]) := by decide +kernel
theorem bf270_231 : am_fetch (am_mth 270) 231 = some (.bipush 13, 2, [], [9, 10, 11]) := by decide +kernel
theorem bf270_233 : am_fetch (am_mth 270) 233 = some (.if_icmp .ge 22, 3, [], [9, 10, 11]) := by decide +kernel
theorem bf270_236 : am_fetch (am_mth 270) 236 = some (.aload 7, 2, [], [9, 10, 11]) := by decide +kernel
theorem bf270_238 : am_fetch (am_mth 270) 238 = some (.iload 8, 2, [], [9, 10, 11]) := by decide +kernel
theorem bf270_240 : am_fetch (am_mth 270) 240 = some (.aload_n 1, 1, [], [9, 10, 11]) := by decide +kernel
theorem bf270_241 : am_fetch (am_mth 270) 241 = some (.iload 6, 2, [], [9, 10, 11]) := by decide +kernel
theorem bf270_243 : am_fetch (am_mth 270) 243 = some (.iload 8, 2, [], [9, 10, 11]) := by decide +kernel
theorem bf270_245 : am_fetch (am_mth 270) 245 = some (.invokevirtual 33, 3, [0, 201, 2, 8, 339, 340, 341, 17], [9, 10, 11]) := by decide +kernel
theorem bf270_248 : am_fetch (am_mth 270) 248 = some (.iastore, 1, [], [9, 10, 11]) := by decide +kernel
theorem bf270_249 : am_fetch (am_mth 270) 249 = some (.iinc 8 1, 3, [], [9, 10, 11]) := by decide +kernel
theorem bf270_252 : am_fetch (am_mth 270) 252 = some (.goto (-23), 3, [], [9, 10, 11]) := by decide +kernel
theorem bf270_255 : am_fetch (am_mth 270) 255 = some (.aload_n 1, 1, [], [8, 9, 10, 11]) := by decide +kernel
theorem bf270_256 : am_fetch (am_mth 270) 256 = some (.iconst 0, 1, [], [8, 9, 10, 11]) := by decide +kernel
theorem bf270_257 : am_fetch (am_mth 270) 257 = some (.invokevirtual 36, 3, [0, 136, 1, 8, 396, 397, 398, 17], [8, 9, 10, 11]) := by decide +kernel
theorem bf270_260 : am_fetch (am_mth 270) 260 = some (.istore 8, 2, [], [8, 9, 10, 11]) := by decide +kernel
theorem bf270_262 : am_fetch (am_mth 270) 262 = some (.aload_n 1, 1, [], [9, 10, 11]) := by decide +kernel
theorem bf270_263 : am_fetch (am_mth 270) 263 = some (.bipush 8, 2, [], [9, 10, 11]) := by decide +kernel
theorem bf270_265 : am_fetch (am_mth 270) 265 = some (.invokevirtual 36, 3, [0, 136, 1, 8, 396, 397, 398, 17], [9, 10, 11]) := by decide +kernel
theorem bf270_268 : am_fetch (am_mth 270) 268 = some (.istore 9, 2, [], [9, 10, 11]) := by decide +kernel
theorem bf270_270 : am_fetch (am_mth 270) 270 = some (.iload 4, 2, [], [10, 11]) := by decide +kernel
theorem bf270_272 : am_fetch (am_mth 270) 272 = some (.bipush 8, 2, [], [10, 11]) := by decide +kernel
theorem bf270_274 : am_fetch (am_mth 270) 274 = some (.invokestatic 18, 3, [0, 266, 2, 565, 566, 16], [10, 11]) := by decide +kernel
theorem bf270_277 : am_fetch (am_mth 270) 277 = some (.bipush 6, 2, [], [10, 11]) := by decide +kernel
theorem bf270_279 : am_fetch (am_mth 270) 279 = some (.if_icmp .ne 7, 3, [], [10, 11]) := by decide +kernel
theorem bf270_282 : am_fetch (am_mth 270) 282 = some (.iconst 1, 1, [], [10, 11]) := by decide +kernel
theorem bf270_283 : am_fetch (am_mth 270) 283 = some (.goto 4, 3, [], [10, 11]) := by decide +kernel
theorem bf270_286 : am_fetch (am_mth 270) 286 = some (.iconst 0, 1, [], [10, 11]) := by decide +kernel
theorem bf270_287 : am_fetch (am_mth 270) 287 = some (.istore 10, 2, [], [10, 11]) := by decide +kernel
theorem bf270_289 : am_fetch (am_mth 270) 289 = some (.aload_n 1, 1, [], [11]) := by decide +kernel
theorem bf270_290 : am_fetch (am_mth 270) 290 = some (.iload 6, 2, [], [11]) := by decide +kernel
theorem bf270_292 : am_fetch (am_mth 270) 292 = some (.iload 4, 2, [], [11]) := by decide +kernel
theorem bf270_294 : am_fetch (am_mth 270) 294 = some (.bipush 8, 2, [], [11]) := by decide +kernel
theorem bf270_296 : am_fetch (am_mth 270) 296 = some (.invokestatic 18, 3, [0, 266, 2, 565, 566, 16], [11]) := by decide +kernel
theorem bf270_299 : am_fetch (am_mth 270) 299 = some (.iload 4, 2, [], [11]) := by decide +kernel
theorem bf270_301 : am_fetch (am_mth 270) 301 = some (.bipush 8, 2, [], [4, 11]) := by decide +kernel
theorem bf270_303 : am_fetch (am_mth 270) 303 = some (.idiv, 1, [], [4, 11]) := by decide +kernel
theorem bf270_304 : am_fetch (am_mth 270) 304 = some (.iload 5, 2, [], [4, 11]) := by decide +kernel
theorem bf270_306 : am_fetch (am_mth 270) 306 = some (.invokestatic 39, 3, [0, 268, 5, 573, 574, 16], [4, 5, 11]) := by decide +kernel
theorem bf270_309 : am_fetch (am_mth 270) 309 = some (.ifCond .eq 7, 3, [], [4, 5, 11]) := by decide +kernel
theorem bf270_312 : am_fetch (am_mth 270) 312 = some (.iconst 1, 1, [], [4, 5, 11]) := by decide +kernel
theorem bf270_313 : am_fetch (am_mth 270) 313 = some (.goto 4, 3, [], [4, 5, 11]) := by decide +kernel
theorem bf270_316 : am_fetch (am_mth 270) 316 = some (.iconst 0, 1, [], [4, 5, 11]) := by decide +kernel
theorem bf270_317 : am_fetch (am_mth 270) 317 = some (.istore 11, 2, [], [4, 5, 11]) := by decide +kernel
theorem bf270_319 : am_fetch (am_mth 270) 319 = some (.aload_n 1, 1, [], [4, 5]) := by decide +kernel
theorem bf270_320 : am_fetch (am_mth 270) 320 = some (.bipush 8, 2, [], [4, 5]) := by decide +kernel
theorem bf270_322 : am_fetch (am_mth 270) 322 = some (.invokevirtual 36, 3, [0, 136, 1, 8, 396, 397, 398, 17], [4, 5]) := by decide +kernel
theorem bf270_325 : am_fetch (am_mth 270) 325 = some (.iload 9, 2, [], [4, 5]) := by decide +kernel
theorem bf270_327 : am_fetch (am_mth 270) 327 = some (.if_icmp .lt 57, 3, [], [4, 5, 9]) := by decide +kernel
theorem bf270_330 : am_fetch (am_mth 270) 330 = some (.aload_n 1, 1, [], [4, 5, 9]) := by decide +kernel
theorem bf270_331 : am_fetch (am_mth 270) 331 = some (.iload 6, 2, [], [4, 5, 9]) := by decide +kernel
theorem bf270_333 : am_fetch (am_mth 270) 333 = some (.bipush 10, 2, [], [4, 5, 9]) := by decide +kernel
theorem bf270_335 : am_fetch (am_mth 270) 335 = some (.invokevirtual 33, 3, [0, 201, 2, 8, 339, 340, 341, 17], [4, 5, 9]) := by decide +kernel
theorem bf270_338 : am_fetch (am_mth 270) 338 = some (.aload 7, 2, [], [4, 5, 9]) := by decide +kernel
theorem bf270_340 : am_fetch (am_mth 270) 340 = some (.bipush 10, 2, [], [4, 5, 9]) := by decide +kernel
theorem bf270_342 : am_fetch (am_mth 270) 342 = some (.iaload, 1, [], [4, 5, 9]) := by decide +kernel
theorem bf270_343 : am_fetch (am_mth 270) 343 = some (.iload 11, 2, [], [4, 5, 9]) := by decide +kernel
theorem bf270_345 : am_fetch (am_mth 270) 345 = some (.iadd, 1, [], [4, 5, 9]) := by decide +kernel
theorem bf270_346 : am_fetch (am_mth 270) 346 = some (.if_icmp .ne 38, 3, [], [4, 5, 9]) := by decide +kernel
theorem bf270_349 : am_fetch (am_mth 270) 349 = some (.aload_n 1, 1, [], [4, 5, 9]) := by decide +kernel
theorem bf270_350 : am_fetch (am_mth 270) 350 = some (.iload 6, 2, [], [4, 5, 9]) := by decide +kernel
theorem bf270_352 : am_fetch (am_mth 270) 352 = some (.iconst 2, 1, [], [4, 5, 9]) := by decide +kernel
theorem bf270_353 : am_fetch (am_mth 270) 353 = some (.invokevirtual 33, 3, [0, 201, 2, 8, 339, 340, 341, 17], [4, 5, 9]) := by decide +kernel
theorem bf270_356 : am_fetch (am_mth 270) 356 = some (.aload 7, 2, [], [4, 5, 9]) := by decide +kernel
theorem bf270_358 : am_fetch (am_mth 270) 358 = some (.iconst 2, 1, [], [4, 5, 9]) := by decide +kernel
theorem bf270_359 : am_fetch (am_mth 270) 359 = some (.iaload, 1, [], [4, 5, 9]) := by decide +kernel
theorem bf270_360 : am_fetch (am_mth 270) 360 = some (.iload 11, 2, [], [4, 5, 9]) := by decide +kernel
theorem bf270_362 : am_fetch (am_mth 270) 362 = some (.isub, 1, [], [4, 5, 9]) := by decide +kernel
theorem bf270_363 : am_fetch (am_mth 270) 363 = some (.if_icmp .ne 21, 3, [], [4, 5, 9]) := by decide +kernel
theorem bf270_366 : am_fetch (am_mth 270) 366 = some (.iload 10, 2, [], [4, 5, 9]) := by decide +kernel
theorem bf270_368 : am_fetch (am_mth 270) 368 = some (.ifCond .ne 18, 3, [], [4, 5, 9, 10]) := by decide +kernel
theorem bf270_371 : am_fetch (am_mth 270) 371 = some (.aload_n 1, 1, [], [4, 5, 9, 10]) := by decide +kernel
theorem bf270_372 : am_fetch (am_mth 270) 372 = some (.iconst 0, 1, [], [4, 5, 9, 10]) := by decide +kernel
theorem bf270_373 : am_fetch (am_mth 270) 373 = some (.invokevirtual 36, 3, [0, 136, 1, 8, 396, 397, 398, 17], [4, 5, 9, 10]) := by decide +kernel
theorem bf270_376 : am_fetch (am_mth 270) 376 = some (.iload 8, 2, [], [4, 5, 9, 10]) := by decide +kernel
theorem bf270_378 : am_fetch (am_mth 270) 378 = some (.iload 11, 2, [], [4, 5, 8, 9, 10]) := by decide +kernel
theorem bf270_380 : am_fetch (am_mth 270) 380 = some (.iadd, 1, [], [4, 5, 8, 9, 10, 11]) := by decide +kernel
theorem bf270_381 : am_fetch (am_mth 270) 381 = some (.if_icmp .eq 5, 3, [], [4, 5, 8, 9, 10, 11]) := by decide +kernel
theorem bf270_384 : am_fetch (am_mth 270) 384 = some (.iconst 0, 1, [], [0, 1, 2, 3, 4, 5, 6, 7, 8, 9, 10, 11]) := by decide +kernel
theorem bf270_385 : am_fetch (am_mth 270) 385 = some (.ireturn, 1, [1], [0, 1, 2, 3, 4, 5, 6, 7, 8, 9, 10, 11]) := by decide +kernel
theorem bf270_386 : am_fetch (am_mth 270) 386 = some (.aload_n 1, 1, [], [4, 5, 8, 9, 10, 11]) := by decide +kernel
theorem bf270_387 : am_fetch (am_mth 270) 387 = some (.iload 6, 2, [], [4, 5, 8, 9, 10, 11]) := by decide +kernel
theorem bf270_389 : am_fetch (am_mth 270) 389 = some (.iconst 5, 1, [], [4, 5, 8, 9, 10, 11]) := by decide +kernel
theorem bf270_390 : am_fetch (am_mth 270) 390 = some (.invokevirtual 33, 3, [0, 201, 2, 8, 339, 340, 341, 17], [4, 5, 8, 9, 10, 11]) := by decide +kernel
theorem bf270_393 : am_fetch (am_mth 270) 393 = some (.aload_n 1, 1, [], [4, 5, 8, 9, 10, 11]) := by decide +kernel
theorem bf270_394 : am_fetch (am_mth 270) 394 = some (.iload 6, 2, [], [4, 5, 8, 9, 10, 11]) := by decide +kernel
theorem bf270_396 : am_fetch (am_mth 270) 396 = some (.bipush 6, 2, [], [4, 5, 8, 9, 10, 11]) := by decide +kernel
theorem bf270_398 : am_fetch (am_mth 270) 398 = some (.invokevirtual 33, 3, [0, 201, 2, 8, 339, 340, 341, 17], [4, 5, 8, 9, 10, 11]) := by decide +kernel
theorem bf270_401 : am_fetch (am_mth 270) 401 = some (.iadd, 1, [], [4, 5, 8, 9, 10, 11]) := by decide +kernel
theorem bf270_402 : am_fetch (am_mth 270) 402 = some (.aload 7, 2, [], [4, 5, 8, 9, 10, 11]) := by decide +kernel
theorem bf270_404 : am_fetch (am_mth 270) 404 = some (.iconst 5, 1, [], [4, 5, 8, 9, 10, 11]) := by decide +kernel
theorem bf270_405 : am_fetch (am_mth 270) 405 = some (.iaload, 1, [], [4, 5, 8, 9, 10, 11]) := by decide +kernel
theorem bf270_406 : am_fetch (am_mth 270) 406 = some (.aload 7, 2, [], [4, 5, 8, 9, 10, 11]) := by decide +kernel
theorem bf270_408 : am_fetch (am_mth 270) 408 = some (.bipush 6, 2, [], [4, 5, 7, 8, 9, 10, 11]) := by decide +kernel
theorem bf270_410 : am_fetch (am_mth 270) 410 = some (.iaload, 1, [], [4, 5, 7, 8, 9, 10, 11]) := by decide +kernel
theorem bf270_411 : am_fetch (am_mth 270) 411 = some (.iadd, 1, [], [4, 5, 7, 8, 9, 10, 11]) := by decide +kernel
theorem bf270_412 : am_fetch (am_mth 270) 412 = some (.if_icmp .lt 12, 3, [], [4, 5, 7, 8, 9, 10, 11]) := by decide +kernel
theorem bf270_415 : am_fetch (am_mth 270) 415 = some (.aload_n 1, 1, [], [4, 5, 7, 8, 9, 10, 11]) := by decide +kernel
theorem bf270_416 : am_fetch (am_mth 270) 416 = some (.iload 6, 2, [], [4, 5, 7, 8, 9, 10, 11]) := by decide +kernel
theorem bf270_418 : am_fetch (am_mth 270) 418 = some (.invokestatic 43, 3, [0, 269, 2, 695, 696, 16], [4, 5, 6, 7, 8, 9, 10, 11]) := by decide +kernel
theorem bf270_421 : am_fetch (am_mth 270) 421 = some (.ifCond .ne 5, 3, [], [4, 5, 6, 7, 8, 9, 10, 11]) := by decide +kernel
theorem bf270_424 : am_fetch (am_mth 270) 424 = some (.iconst 0, 1, [], [0, 1, 2, 3, 4, 5, 6, 7, 8, 9, 10, 11]) := by decide +kernel
theorem bf270_425 : am_fetch (am_mth 270) 425 = some (.ireturn, 1, [1], [0, 1, 2, 3, 4, 5, 6, 7, 8, 9, 10, 11]) := by decide +kernel
theorem bf270_426 : am_fetch (am_mth 270) 426 = some (.iinc 3 1, 3, [], [4, 5, 6, 7, 8, 9, 10, 11]) := by decide +kernel
theorem bf270_429 : am_fetch (am_mth 270) 429 = some (.goto (-257), 3, [], [4, 5, 6, 7, 8, 9, 10, 11]) := by decide +kernel
theorem bf270_432 : am_fetch (am_mth 270) 432 = some (.aload_n 1, 1, [], [0, 2, 3, 4, 5, 6, 7, 8, 9, 10, 11]) := by decide +kernel
theorem bf270_433 : am_fetch (am_mth 270) 433 = some (.invokevirtual 47, 3, [0, 250, 0, 8, 455, 456, 457, 17], [0, 2, 3, 4, 5, 6, 7, 8, 9, 10, 11]) := by decide +kernel
theorem bf270_436 : am_fetch (am_mth 270) 436 = some (.lstore_n 3, 1, [], [0, 2, 3, 4, 5, 6, 7, 8, 9, 10, 11]) := by decide +kernel
theorem bf270_437 : am_fetch (am_mth 270) 437 = some (.aload_n 1, 1, [], [0, 2, 4, 5, 6, 7, 8, 9, 10, 11]) := by decide +kernel
theorem bf270_438 : am_fetch (am_mth 270) 438 = some (.iconst 0, 1, [], [0, 2, 4, 5, 6, 7, 8, 9, 10, 11]) := by decide +kernel
theorem bf270_439 : am_fetch (am_mth 270) 439 = some (.iconst 0, 1, [], [0, 2, 4, 5, 6, 7, 8, 9, 10, 11]) := by decide +kernel
theorem bf270_440 : am_fetch (am_mth 270) 440 = some (.bipush 35, 2, [], [0, 2, 4, 5, 6, 7, 8, 9, 10, 11]) := by decide +kernel
theorem bf270_442 : am_fetch (am_mth 270) 442 = some (.invokevirtual 51, 3, [0, 140, 3, 8, 404, 405, 406, 17], [0, 2, 4, 5, 6, 7, 8, 9, 10, 11]) := by decide +kernel
theorem bf270_445 : am_fetch (am_mth 270) 445 = some (.iconst (-1), 1, [], [0, 2, 4, 5, 6, 7, 8, 9, 10, 11]) := by decide +kernel
theorem bf270_446 : am_fetch (am_mth 270) 446 = some (.if_icmp .lt 34, 3, [], [0, 2, 4, 5, 6, 7, 8, 9, 10, 11]) := by decide +kernel
theorem bf270_449 : am_fetch (am_mth 270) 449 = some (.aload_n 1, 1, [], [0, 2, 4, 5, 6, 7, 8, 9, 10, 11]) := by decide +kernel
theorem bf270_450 : am_fetch (am_mth 270) 450 = some (.iconst 0, 1, [], [0, 2, 4, 5, 6, 7, 8, 9, 10, 11]) := by decide +kernel
theorem bf270_451 : am_fetch (am_mth 270) 451 = some (.iconst 3, 1, [], [0, 2, 4, 5, 6, 7, 8, 9, 10, 11]) := by decide +kernel
theorem bf270_452 : am_fetch (am_mth 270) 452 = some (.invokevirtual 55, 3, [0, 202, 2, 8, 416, 417, 418, 17], [0, 2, 4, 5, 6, 7, 8, 9, 10, 11]) := by decide +kernel
theorem bf270_455 : am_fetch (am_mth 270) 455 = some (.iconst 1, 1, [], [0, 2, 4, 5, 6, 7, 8, 9, 10, 11]) := by decide +kernel
theorem bf270_456 : am_fetch (am_mth 270) 456 = some (.if_icmp .lt 24, 3, [], [0, 2, 4, 5, 6, 7, 8, 9, 10, 11]) := by decide +kernel
theorem bf270_459 : am_fetch (am_mth 270) 459 = some (.aload_n 1, 1, [], [0, 2, 4, 5, 6, 7, 8, 9, 10, 11]) := by decide +kernel
theorem bf270_460 : am_fetch (am_mth 270) 460 = some (.invokevirtual 47, 3, [0, 250, 0, 8, 455, 456, 457, 17], [0, 2, 4, 5, 6, 7, 8, 9, 10, 11]) := by decide +kernel
theorem bf270_463 : am_fetch (am_mth 270) 463 = some (.lload_n 3, 1, [], [0, 2, 4, 5, 6, 7, 8, 9, 10, 11]) := by decide +kernel
theorem bf270_464 : am_fetch (am_mth 270) 464 = some (.lcmp, 1, [], [0, 2, 3, 4, 5, 6, 7, 8, 9, 10, 11]) := by decide +kernel
theorem bf270_465 : am_fetch (am_mth 270) 465 = some (.ifCond .ne 15, 3, [], [0, 2, 3, 4, 5, 6, 7, 8, 9, 10, 11]) := by decide +kernel
theorem bf270_468 : am_fetch (am_mth 270) 468 = some (.aload_n 1, 1, [], [0, 2, 3, 4, 5, 6, 7, 8, 9, 10, 11]) := by decide +kernel
theorem bf270_469 : am_fetch (am_mth 270) 469 = some (.invokevirtual 58, 3, [0, 24, 0, 8, 335, 336, 337, 17], [0, 1, 2, 3, 4, 5, 6, 7, 8, 9, 10, 11]) := by decide +kernel
theorem bf270_472 : am_fetch (am_mth 270) 472 = some (.iconst 1, 1, [], [0, 1, 2, 3, 4, 5, 6, 7, 8, 9, 10, 11]) := by decide +kernel
theorem bf270_473 : am_fetch (am_mth 270) 473 = some (.if_icmp .ne 7, 3, [], [0, 1, 2, 3, 4, 5, 6, 7, 8, 9, 10, 11]) := by decide +kernel
theorem bf270_476 : am_fetch (am_mth 270) 476 = some (.iconst 1, 1, [], [0, 1, 2, 3, 4, 5, 6, 7, 8, 9, 10, 11]) := by decide +kernel
theorem bf270_477 : am_fetch (am_mth 270) 477 = some (.goto 4, 3, [], [0, 1, 2, 3, 4, 5, 6, 7, 8, 9, 10, 11]) := by decide +kernel
theorem bf270_480 : am_fetch (am_mth 270) 480 = some (.iconst 0, 1, [], [0, 1, 2, 3, 4, 5, 6, 7, 8, 9, 10, 11]) := by decide +kernel
theorem bf270_481 : am_fetch (am_mth 270) 481 = some (.ireturn, 1, [1], [0, 1, 2, 3, 4, 5, 6, 7, 8, 9, 10, 11]) := by decide +kernel
theorem bk270_0 {w : am_Wd} {l0 : Nat} : am_run 270 0 [some (.ref l0), none, none, none, none, none, none, none, none, none, none, none] [] w = am_run 270 3 [some (.ref l0), none, none, none, none, none, none, none, none, none, none, none] (.ref w.2.1 :: []) (am_nw w (.inr (8, am_df 8 9)) 9) := by
  exact bn bf270_0 bf270_3 rfl rfl (am_ge_nw _ _ _)
theorem bk270_3 {w : am_Wd} {l0 : Nat} {s0 : Nat} : am_run 270 3 [some (.ref l0), none, none, none, none, none, none, none, none, none, none, none] [.ref s0] w = (am_x 89 [.ref s0] w).bind fun r => bct r fun v w' => am_run 270 7 [some (.ref l0), none, none, none, none, none, none, none, none, none, none, none] (v.toList ++ [.ref s0]) w' := by
  refine (bu (ls'' := [some (.ref l0), none, none, none, none, none, none, none, none, none, none, none]) (st' := [.ref s0, .ref s0]) bf270_3 bf270_4 rfl rfl).trans ?_
  exact bkS bf270_4 bf270_7 rfl (by decide +kernel) (Nat.le_of_ble_eq_true rfl) rfl (bhd rfl)
theorem bk270_7 {w : am_Wd} {l0 : Nat} {s0 : Nat} : am_run 270 7 [some (.ref l0), none, none, none, none, none, none, none, none, none, none, none] [.ref s0] w = (am_x 267 [.ref l0, .int (nI 0)] w).bind fun r => bct r fun v w' => am_run 270 14 [some (.ref l0), some (.ref s0), none, none, none, none, none, none, none, none, none, none] (v.toList ++ [.ref s0]) w' := by
  refine (bu (ls'' := [some (.ref l0), some (.ref s0), none, none, none, none, none, none, none, none, none, none]) (st' := []) bf270_7 bf270_8 rfl rfl).trans ?_
  refine (bu (ls'' := [some (.ref l0), some (.ref s0), none, none, none, none, none, none, none, none, none, none]) (st' := [.ref s0]) bf270_8 bf270_9 rfl rfl).trans ?_
  refine (bu (ls'' := [some (.ref l0), some (.ref s0), none, none, none, none, none, none, none, none, none, none]) (st' := [.ref l0, .ref s0]) bf270_9 bf270_10 rfl rfl).trans ?_
  refine (bu (ls'' := [some (.ref l0), some (.ref s0), none, none, none, none, none, none, none, none, none, none]) (st' := [.int (nI 0), .ref l0, .ref s0]) bf270_10 bf270_11 rfl rfl).trans ?_
  exact bkS bf270_11 bf270_14 rfl (by decide +kernel) (Nat.le_of_ble_eq_true rfl) rfl (bhd rfl)
theorem bk270_14 {w : am_Wd} {l0 : Nat} {l1 : Nat} {s0 : Int32} {s1 : Nat} : am_run 270 14 [some (.ref l0), some (.ref l1), none, none, none, none, none, none, none, none, none, none] [.int s0, .ref s1] w = (am_x 266 [.int s0, .int (nI 127)] w).bind fun r => bct r fun v w' => am_run 270 19 [some (.ref l0), some (.ref l1), none, none, none, none, none, none, none, none, none, none] (v.toList ++ [.ref s1]) w' := by
  refine (bu (ls'' := [some (.ref l0), some (.ref l1), none, none, none, none, none, none, none, none, none, none]) (st' := [.int (nI 127), .int s0, .ref s1]) bf270_14 bf270_16 rfl rfl).trans ?_
  exact bkS bf270_16 bf270_19 rfl (by decide +kernel) (Nat.le_of_ble_eq_true rfl) rfl (bhd rfl)
theorem bk270_19 {w : am_Wd} {l0 : Nat} {l1 : Nat} {s0 : Int32} {s1 : Nat} : am_run 270 19 [some (.ref l0), some (.ref l1), none, none, none, none, none, none, none, none, none, none] [.int s0, .ref s1] w = (am_kf w s1 8).bind fun _ => (am_x 200 [.ref s1, .int s0] w).bind fun r => bct r fun v w' => am_run 270 22 [some (.ref l0), some (.ref l1), none, none, none, none, none, none, none, none, none, none] (v.toList ++ []) w' := by
  exact bkV bf270_19 bf270_22 rfl (by decide +kernel) (Nat.le_of_ble_eq_true rfl) rfl (bhd rfl)
theorem bk270_22 {w : am_Wd} {l0 : Nat} {l1 : Nat} {s0 : Int32} : am_run 270 22 [some (.ref l0), some (.ref l1), none, none, none, none, none, none, none, none, none, none] [.int s0] w = am_run 270 25 [some (.ref l0), some (.ref l1), some (.int (nI 0)), none, none, none, none, none, none, none, none, none] [] w := by
  refine (bu (ls'' := [some (.ref l0), some (.ref l1), none, none, none, none, none, none, none, none, none, none]) (st' := []) bf270_22 bf270_23 rfl rfl).trans ?_
  refine (bu (ls'' := [some (.ref l0), some (.ref l1), none, none, none, none, none, none, none, none, none, none]) (st' := [.int (nI 0)]) bf270_23 bf270_24 rfl rfl).trans ?_
  refine (bu (ls'' := [some (.ref l0), some (.ref l1), some (.int (nI 0)), none, none, none, none, none, none, none, none, none]) (st' := []) bf270_24 bf270_25 rfl rfl).trans ?_
  rfl
theorem bk270_25 {w : am_Wd} {l0 : Nat} {l1 : Nat} {l2 : Int32} : am_run 270 25 [some (.ref l0), some (.ref l1), some (.int l2), none, none, none, none, none, none, none, none, none] [] w = if (nI 8) ≤ l2 then am_run 270 76 [some (.ref l0), some (.ref l1), none, none, none, none, none, none, none, none, none, none] [] w else am_run 270 31 [some (.ref l0), some (.ref l1), some (.int l2), none, none, none, none, none, none, none, none, none] [] w := by
  refine (bu (ls'' := [some (.ref l0), some (.ref l1), some (.int l2), none, none, none, none, none, none, none, none, none]) (st' := [.int l2]) bf270_25 bf270_26 rfl rfl).trans ?_
  refine (bu (ls'' := [some (.ref l0), some (.ref l1), some (.int l2), none, none, none, none, none, none, none, none, none]) (st' := [.int (nI 8), .int l2]) bf270_26 bf270_28 rfl rfl).trans ?_
  exact bic bf270_28 rfl bf270_76 bf270_31 rfl rfl rfl
theorem bk270_76 {w : am_Wd} {l0 : Nat} {l1 : Nat} : am_run 270 76 [some (.ref l0), some (.ref l1), none, none, none, none, none, none, none, none, none, none] [] w = (am_x 267 [.ref l0, .int (nI 1)] w).bind fun r => bct r fun v w' => am_run 270 82 [some (.ref l0), some (.ref l1), none, none, none, none, none, none, none, none, none, none] (v.toList ++ [.int (nI 1)]) w' := by
  refine (bu (ls'' := [some (.ref l0), some (.ref l1), none, none, none, none, none, none, none, none, none, none]) (st' := [.int (nI 1)]) bf270_76 bf270_77 rfl rfl).trans ?_
  refine (bu (ls'' := [some (.ref l0), some (.ref l1), none, none, none, none, none, none, none, none, none, none]) (st' := [.ref l0, .int (nI 1)]) bf270_77 bf270_78 rfl rfl).trans ?_
  refine (bu (ls'' := [some (.ref l0), some (.ref l1), none, none, none, none, none, none, none, none, none, none]) (st' := [.int (nI 1), .ref l0, .int (nI 1)]) bf270_78 bf270_79 rfl rfl).trans ?_
  exact bkS bf270_79 bf270_82 rfl (by decide +kernel) (Nat.le_of_ble_eq_true rfl) rfl (bhd rfl)
theorem bk270_31 {w : am_Wd} {l0 : Nat} {l1 : Nat} {l2 : Int32} : am_run 270 31 [some (.ref l0), some (.ref l1), some (.int l2), none, none, none, none, none, none, none, none, none] [] w = (am_x 267 [.ref l0, .int l2] w).bind fun r => bct r fun v w' => am_run 270 37 [some (.ref l0), some (.ref l1), some (.int l2), none, none, none, none, none, none, none, none, none] (v.toList ++ [.ref l1]) w' := by
  refine (bu (ls'' := [some (.ref l0), some (.ref l1), some (.int l2), none, none, none, none, none, none, none, none, none]) (st' := [.ref l1]) bf270_31 bf270_32 rfl rfl).trans ?_
  refine (bu (ls'' := [some (.ref l0), some (.ref l1), some (.int l2), none, none, none, none, none, none, none, none, none]) (st' := [.ref l0, .ref l1]) bf270_32 bf270_33 rfl rfl).trans ?_
  refine (bu (ls'' := [some (.ref l0), some (.ref l1), some (.int l2), none, none, none, none, none, none, none, none, none]) (st' := [.int l2, .ref l0, .ref l1]) bf270_33 bf270_34 rfl rfl).trans ?_
  exact bkS bf270_34 bf270_37 rfl (by decide +kernel) (Nat.le_of_ble_eq_true rfl) rfl (bhd rfl)
theorem bk270_82 {w : am_Wd} {l0 : Nat} {l1 : Nat} {s0 : Int32} {s1 : Int32} : am_run 270 82 [some (.ref l0), some (.ref l1), none, none, none, none, none, none, none, none, none, none] [.int s0, .int s1] w = (am_x 266 [.int s0, .int (nI 3)] w).bind fun r => bct r fun v w' => am_run 270 86 [some (.ref l0), some (.ref l1), none, none, none, none, none, none, none, none, none, none] (v.toList ++ [.int s1]) w' := by
  refine (bu (ls'' := [some (.ref l0), some (.ref l1), none, none, none, none, none, none, none, none, none, none]) (st' := [.int (nI 3), .int s0, .int s1]) bf270_82 bf270_83 rfl rfl).trans ?_
  exact bkS bf270_83 bf270_86 rfl (by decide +kernel) (Nat.le_of_ble_eq_true rfl) rfl (bhd rfl)
theorem bk270_37 {w : am_Wd} {l0 : Nat} {l1 : Nat} {l2 : Int32} {s0 : Int32} {s1 : Nat} : am_run 270 37 [some (.ref l0), some (.ref l1), some (.int l2), none, none, none, none, none, none, none, none, none] [.int s0, .ref s1] w = (am_x 266 [.int (s0 + ((nI 5) * l2)), .int (nI 36)] w).bind fun r => bct r fun v w' => am_run 270 46 [some (.ref l0), some (.ref l1), some (.int l2), none, none, none, none, none, none, none, none, none] (v.toList ++ [.ref s1]) w' := by
  refine (bu (ls'' := [some (.ref l0), some (.ref l1), some (.int l2), none, none, none, none, none, none, none, none, none]) (st' := [.int (nI 5), .int s0, .ref s1]) bf270_37 bf270_38 rfl rfl).trans ?_
  refine (bu (ls'' := [some (.ref l0), some (.ref l1), some (.int l2), none, none, none, none, none, none, none, none, none]) (st' := [.int l2, .int (nI 5), .int s0, .ref s1]) bf270_38 bf270_39 rfl rfl).trans ?_
  refine (bu (ls'' := [some (.ref l0), some (.ref l1), some (.int l2), none, none, none, none, none, none, none, none, none]) (st' := [.int ((nI 5) * l2), .int s0, .ref s1]) bf270_39 bf270_40 rfl rfl).trans ?_
  refine (bu (ls'' := [some (.ref l0), some (.ref l1), some (.int l2), none, none, none, none, none, none, none, none, none]) (st' := [.int (s0 + ((nI 5) * l2)), .ref s1]) bf270_40 bf270_41 rfl rfl).trans ?_
  refine (bu (ls'' := [some (.ref l0), some (.ref l1), some (.int l2), none, none, none, none, none, none, none, none, none]) (st' := [.int (nI 36), .int (s0 + ((nI 5) * l2)), .ref s1]) bf270_41 bf270_43 rfl rfl).trans ?_
  exact bkS bf270_43 bf270_46 rfl (by decide +kernel) (Nat.le_of_ble_eq_true rfl) rfl (bhd rfl)
theorem bk270_86 {w : am_Wd} {l0 : Nat} {l1 : Nat} {s0 : Int32} {s1 : Int32} : am_run 270 86 [some (.ref l0), some (.ref l1), none, none, none, none, none, none, none, none, none, none] [.int s0, .int s1] w = am_run 270 90 [some (.ref l0), some (.ref l1), some (.int (s1 + s0)), some (.int (nI 0)), none, none, none, none, none, none, none, none] [] w := by
  refine (bu (ls'' := [some (.ref l0), some (.ref l1), none, none, none, none, none, none, none, none, none, none]) (st' := [.int (s1 + s0)]) bf270_86 bf270_87 rfl rfl).trans ?_
  refine (bu (ls'' := [some (.ref l0), some (.ref l1), some (.int (s1 + s0)), none, none, none, none, none, none, none, none, none]) (st' := []) bf270_87 bf270_88 rfl rfl).trans ?_
  refine (bu (ls'' := [some (.ref l0), some (.ref l1), some (.int (s1 + s0)), none, none, none, none, none, none, none, none, none]) (st' := [.int (nI 0)]) bf270_88 bf270_89 rfl rfl).trans ?_
  refine (bu (ls'' := [some (.ref l0), some (.ref l1), some (.int (s1 + s0)), some (.int (nI 0)), none, none, none, none, none, none, none, none]) (st' := []) bf270_89 bf270_90 rfl rfl).trans ?_
  rfl
theorem bk270_46 {w : am_Wd} {l0 : Nat} {l1 : Nat} {l2 : Int32} {s0 : Int32} {s1 : Nat} : am_run 270 46 [some (.ref l0), some (.ref l1), some (.int l2), none, none, none, none, none, none, none, none, none] [.int s0, .ref s1] w = (am_x 267 [.ref l0, .int (l2 + (nI 4))] w).bind fun r => bct r fun v w' => am_run 270 54 [some (.ref l0), some (.ref l1), some (.int l2), none, none, none, none, none, none, none, none, none] (v.toList ++ [.int (nI 1), .int s0, .ref s1]) w' := by
  refine (bu (ls'' := [some (.ref l0), some (.ref l1), some (.int l2), none, none, none, none, none, none, none, none, none]) (st' := [.int (nI 1), .int s0, .ref s1]) bf270_46 bf270_47 rfl rfl).trans ?_
  refine (bu (ls'' := [some (.ref l0), some (.ref l1), some (.int l2), none, none, none, none, none, none, none, none, none]) (st' := [.ref l0, .int (nI 1), .int s0, .ref s1]) bf270_47 bf270_48 rfl rfl).trans ?_
  refine (bu (ls'' := [some (.ref l0), some (.ref l1), some (.int l2), none, none, none, none, none, none, none, none, none]) (st' := [.int l2, .ref l0, .int (nI 1), .int s0, .ref s1]) bf270_48 bf270_49 rfl rfl).trans ?_
  refine (bu (ls'' := [some (.ref l0), some (.ref l1), some (.int l2), none, none, none, none, none, none, none, none, none]) (st' := [.int (nI 4), .int l2, .ref l0, .int (nI 1), .int s0, .ref s1]) bf270_49 bf270_50 rfl rfl).trans ?_
  refine (bu (ls'' := [some (.ref l0), some (.ref l1), some (.int l2), none, none, none, none, none, none, none, none, none]) (st' := [.int (l2 + (nI 4)), .ref l0, .int (nI 1), .int s0, .ref s1]) bf270_50 bf270_51 rfl rfl).trans ?_
  exact bkS bf270_51 bf270_54 rfl (by decide +kernel) (Nat.le_of_ble_eq_true rfl) rfl (bhd rfl)
theorem bk270_90 {w : am_Wd} {l0 : Nat} {l1 : Nat} {l2 : Int32} {l3 : Int32} : am_run 270 90 [some (.ref l0), some (.ref l1), some (.int l2), some (.int l3), none, none, none, none, none, none, none, none] [] w = if l2 ≤ l3 then am_run 270 170 [some (.ref l0), some (.ref l1), some (.int l2), none, none, none, none, none, none, none, none, none] [] w else am_run 270 95 [some (.ref l0), some (.ref l1), some (.int l2), some (.int l3), none, none, none, none, none, none, none, none] [] w := by
  refine (bu (ls'' := [some (.ref l0), some (.ref l1), some (.int l2), some (.int l3), none, none, none, none, none, none, none, none]) (st' := [.int l3]) bf270_90 bf270_91 rfl rfl).trans ?_
  refine (bu (ls'' := [some (.ref l0), some (.ref l1), some (.int l2), some (.int l3), none, none, none, none, none, none, none, none]) (st' := [.int l2, .int l3]) bf270_91 bf270_92 rfl rfl).trans ?_
  exact bic bf270_92 rfl bf270_170 bf270_95 rfl rfl rfl
theorem bk270_54 {w : am_Wd} {l0 : Nat} {l1 : Nat} {l2 : Int32} {s0 : Int32} {s1 : Int32} {s2 : Int32} {s3 : Nat} : am_run 270 54 [some (.ref l0), some (.ref l1), some (.int l2), none, none, none, none, none, none, none, none, none] [.int s0, .int s1, .int s2, .ref s3] w = (am_x 266 [.int s0, .int (nI 3)] w).bind fun r => bct r fun v w' => am_run 270 58 [some (.ref l0), some (.ref l1), some (.int l2), none, none, none, none, none, none, none, none, none] (v.toList ++ [.int s1, .int s2, .ref s3]) w' := by
  refine (bu (ls'' := [some (.ref l0), some (.ref l1), some (.int l2), none, none, none, none, none, none, none, none, none]) (st' := [.int (nI 3), .int s0, .int s1, .int s2, .ref s3]) bf270_54 bf270_55 rfl rfl).trans ?_
  exact bkS bf270_55 bf270_58 rfl (by decide +kernel) (Nat.le_of_ble_eq_true rfl) rfl (bhd rfl)
theorem bk270_170 {w : am_Wd} {l0 : Nat} {l1 : Nat} {l2 : Int32} : am_run 270 170 [some (.ref l0), some (.ref l1), some (.int l2), none, none, none, none, none, none, none, none, none] [] w = am_run 270 172 [some (.ref l0), some (.ref l1), some (.int l2), some (.int (nI 0)), none, none, none, none, none, none, none, none] [] w := by
  refine (bu (ls'' := [some (.ref l0), some (.ref l1), some (.int l2), none, none, none, none, none, none, none, none, none]) (st' := [.int (nI 0)]) bf270_170 bf270_171 rfl rfl).trans ?_
  refine (bu (ls'' := [some (.ref l0), some (.ref l1), some (.int l2), some (.int (nI 0)), none, none, none, none, none, none, none, none]) (st' := []) bf270_171 bf270_172 rfl rfl).trans ?_
  rfl
theorem bk270_95 {w : am_Wd} {l0 : Nat} {l1 : Nat} {l2 : Int32} {l3 : Int32} : am_run 270 95 [some (.ref l0), some (.ref l1), some (.int l2), some (.int l3), none, none, none, none, none, none, none, none] [] w = (am_x 267 [.ref l0, .int (l3 + (nI 2))] w).bind fun r => bct r fun v w' => am_run 270 103 [some (.ref l0), some (.ref l1), some (.int l2), some (.int l3), none, none, none, none, none, none, none, none] (v.toList ++ [.ref l1]) w' := by
  refine (bu (ls'' := [some (.ref l0), some (.ref l1), some (.int l2), some (.int l3), none, none, none, none, none, none, none, none]) (st' := [.ref l1]) bf270_95 bf270_96 rfl rfl).trans ?_
  refine (bu (ls'' := [some (.ref l0), some (.ref l1), some (.int l2), some (.int l3), none, none, none, none, none, none, none, none]) (st' := [.ref l0, .ref l1]) bf270_96 bf270_97 rfl rfl).trans ?_
  refine (bu (ls'' := [some (.ref l0), some (.ref l1), some (.int l2), some (.int l3), none, none, none, none, none, none, none, none]) (st' := [.int l3, .ref l0, .ref l1]) bf270_97 bf270_98 rfl rfl).trans ?_
  refine (bu (ls'' := [some (.ref l0), some (.ref l1), some (.int l2), some (.int l3), none, none, none, none, none, none, none, none]) (st' := [.int (nI 2), .int l3, .ref l0, .ref l1]) bf270_98 bf270_99 rfl rfl).trans ?_
  refine (bu (ls'' := [some (.ref l0), some (.ref l1), some (.int l2), some (.int l3), none, none, none, none, none, none, none, none]) (st' := [.int (l3 + (nI 2)), .ref l0, .ref l1]) bf270_99 bf270_100 rfl rfl).trans ?_
  exact bkS bf270_100 bf270_103 rfl (by decide +kernel) (Nat.le_of_ble_eq_true rfl) rfl (bhd rfl)
theorem bk270_58 {w : am_Wd} {l0 : Nat} {l1 : Nat} {l2 : Int32} {s0 : Int32} {s1 : Int32} {s2 : Int32} {s3 : Nat} : am_run 270 58 [some (.ref l0), some (.ref l1), some (.int l2), none, none, none, none, none, none, none, none, none] [.int s0, .int s1, .int s2, .ref s3] w = if ¬ s0 = nI 0 then am_run 270 65 [some (.ref l0), some (.ref l1), some (.int l2), none, none, none, none, none, none, none, none, none] [.int s1, .int s2, .ref s3] w else am_run 270 61 [some (.ref l0), some (.ref l1), some (.int l2), none, none, none, none, none, none, none, none, none] [.int s1, .int s2, .ref s3] w := by
  exact bifc bf270_58 rfl bf270_65 bf270_61 rfl rfl rfl
theorem bk270_172 {w : am_Wd} {l0 : Nat} {l1 : Nat} {l2 : Int32} {l3 : Int32} : am_run 270 172 [some (.ref l0), some (.ref l1), some (.int l2), some (.int l3), none, none, none, none, none, none, none, none] [] w = if (nI 60) ≤ l3 then am_run 270 432 [none, some (.ref l1), none, none, none, none, none, none, none, none, none, none] [] w else am_run 270 178 [some (.ref l0), some (.ref l1), some (.int l2), some (.int l3), none, none, none, none, none, none, none, none] [] w := by
  refine (bu (ls'' := [some (.ref l0), some (.ref l1), some (.int l2), some (.int l3), none, none, none, none, none, none, none, none]) (st' := [.int l3]) bf270_172 bf270_173 rfl rfl).trans ?_
  refine (bu (ls'' := [some (.ref l0), some (.ref l1), some (.int l2), some (.int l3), none, none, none, none, none, none, none, none]) (st' := [.int (nI 60), .int l3]) bf270_173 bf270_175 rfl rfl).trans ?_
  exact bic bf270_175 rfl bf270_432 bf270_178 rfl rfl rfl
theorem bk270_103 {w : am_Wd} {l0 : Nat} {l1 : Nat} {l2 : Int32} {l3 : Int32} {s0 : Int32} {s1 : Nat} : am_run 270 103 [some (.ref l0), some (.ref l1), some (.int l2), some (.int l3), none, none, none, none, none, none, none, none] [.int s0, .ref s1] w = (am_x 266 [.int s0, .int (nI 36)] w).bind fun r => bct r fun v w' => am_run 270 108 [some (.ref l0), some (.ref l1), some (.int l2), some (.int l3), none, none, none, none, none, none, none, none] (v.toList ++ [.ref s1]) w' := by
  refine (bu (ls'' := [some (.ref l0), some (.ref l1), some (.int l2), some (.int l3), none, none, none, none, none, none, none, none]) (st' := [.int (nI 36), .int s0, .ref s1]) bf270_103 bf270_105 rfl rfl).trans ?_
  exact bkS bf270_105 bf270_108 rfl (by decide +kernel) (Nat.le_of_ble_eq_true rfl) rfl (bhd rfl)
theorem bk270_65 {w : am_Wd} {l0 : Nat} {l1 : Nat} {l2 : Int32} {s0 : Int32} {s1 : Int32} {s2 : Nat} : am_run 270 65 [some (.ref l0), some (.ref l1), some (.int l2), none, none, none, none, none, none, none, none, none] [.int s0, .int s1, .ref s2] w = am_run 270 66 [some (.ref l0), some (.ref l1), some (.int l2), none, none, none, none, none, none, none, none, none] [.int (nI 0), .int s0, .int s1, .ref s2] w := by
  refine (bu (ls'' := [some (.ref l0), some (.ref l1), some (.int l2), none, none, none, none, none, none, none, none, none]) (st' := [.int (nI 0), .int s0, .int s1, .ref s2]) bf270_65 bf270_66 rfl rfl).trans ?_
  rfl
theorem bk270_61 {w : am_Wd} {l0 : Nat} {l1 : Nat} {l2 : Int32} {s0 : Int32} {s1 : Int32} {s2 : Nat} : am_run 270 61 [some (.ref l0), some (.ref l1), some (.int l2), none, none, none, none, none, none, none, none, none] [.int s0, .int s1, .ref s2] w = am_run 270 66 [some (.ref l0), some (.ref l1), some (.int l2), none, none, none, none, none, none, none, none, none] [.int (nI 1), .int s0, .int s1, .ref s2] w := by
  refine (bu (ls'' := [some (.ref l0), some (.ref l1), some (.int l2), none, none, none, none, none, none, none, none, none]) (st' := [.int (nI 1), .int s0, .int s1, .ref s2]) bf270_61 bf270_62 rfl rfl).trans ?_
  refine (bu (ls'' := [some (.ref l0), some (.ref l1), some (.int l2), none, none, none, none, none, none, none, none, none]) (st' := [.int (nI 1), .int s0, .int s1, .ref s2]) bf270_62 bf270_66 rfl rfl).trans ?_
  rfl
theorem bk270_432 {w : am_Wd} {l1 : Nat} : am_run 270 432 [none, some (.ref l1), none, none, none, none, none, none, none, none, none, none] [] w = (am_kf w l1 8).bind fun _ => (am_x 250 [.ref l1] w).bind fun r => bct r fun v w' => am_run 270 436 [none, some (.ref l1), none, none, none, none, none, none, none, none, none, none] (v.toList ++ []) w' := by
  refine (bu (ls'' := [none, some (.ref l1), none, none, none, none, none, none, none, none, none, none]) (st' := [.ref l1]) bf270_432 bf270_433 rfl rfl).trans ?_
  exact bkV bf270_433 bf270_436 rfl (by decide +kernel) (Nat.le_of_ble_eq_true rfl) rfl (bhd rfl)
theorem bk270_178 {w : am_Wd} {l0 : Nat} {l1 : Nat} {l2 : Int32} {l3 : Int32} : am_run 270 178 [some (.ref l0), some (.ref l1), some (.int l2), some (.int l3), none, none, none, none, none, none, none, none] [] w = (am_x 267 [.ref l0, .int (bj_irem l3 (nI 16))] w).bind fun r => bct r fun v w' => am_run 270 186 [some (.ref l0), some (.ref l1), some (.int l2), some (.int l3), none, none, none, none, none, none, none, none] (v.toList ++ []) w' := by
  refine (bu (ls'' := [some (.ref l0), some (.ref l1), some (.int l2), some (.int l3), none, none, none, none, none, none, none, none]) (st' := [.ref l0]) bf270_178 bf270_179 rfl rfl).trans ?_
  refine (bu (ls'' := [some (.ref l0), some (.ref l1), some (.int l2), some (.int l3), none, none, none, none, none, none, none, none]) (st' := [.int l3, .ref l0]) bf270_179 bf270_180 rfl rfl).trans ?_
  refine (bu (ls'' := [some (.ref l0), some (.ref l1), some (.int l2), some (.int l3), none, none, none, none, none, none, none, none]) (st' := [.int (nI 16), .int l3, .ref l0]) bf270_180 bf270_182 rfl rfl).trans ?_
  refine (bu (ls'' := [some (.ref l0), some (.ref l1), some (.int l2), some (.int l3), none, none, none, none, none, none, none, none]) (st' := [.int (bj_irem l3 (nI 16)), .ref l0]) bf270_182 bf270_183 rfl rfl).trans ?_
  exact bkS bf270_183 bf270_186 rfl (by decide +kernel) (Nat.le_of_ble_eq_true rfl) rfl (bhd rfl)
theorem bk270_108 {w : am_Wd} {l0 : Nat} {l1 : Nat} {l2 : Int32} {l3 : Int32} {s0 : Int32} {s1 : Nat} : am_run 270 108 [some (.ref l0), some (.ref l1), some (.int l2), some (.int l3), none, none, none, none, none, none, none, none] [.int s0, .ref s1] w = (am_x 267 [.ref l0, .int (l3 + (nI 3))] w).bind fun r => bct r fun v w' => am_run 270 115 [some (.ref l0), some (.ref l1), some (.int l2), some (.int l3), none, none, none, none, none, none, none, none] (v.toList ++ [.int s0, .ref s1]) w' := by
  refine (bu (ls'' := [some (.ref l0), some (.ref l1), some (.int l2), some (.int l3), none, none, none, none, none, none, none, none]) (st' := [.ref l0, .int s0, .ref s1]) bf270_108 bf270_109 rfl rfl).trans ?_
  refine (bu (ls'' := [some (.ref l0), some (.ref l1), some (.int l2), some (.int l3), none, none, none, none, none, none, none, none]) (st' := [.int l3, .ref l0, .int s0, .ref s1]) bf270_109 bf270_110 rfl rfl).trans ?_
  refine (bu (ls'' := [some (.ref l0), some (.ref l1), some (.int l2), some (.int l3), none, none, none, none, none, none, none, none]) (st' := [.int (nI 3), .int l3, .ref l0, .int s0, .ref s1]) bf270_110 bf270_111 rfl rfl).trans ?_
  refine (bu (ls'' := [some (.ref l0), some (.ref l1), some (.int l2), some (.int l3), none, none, none, none, none, none, none, none]) (st' := [.int (l3 + (nI 3)), .ref l0, .int s0, .ref s1]) bf270_111 bf270_112 rfl rfl).trans ?_
  exact bkS bf270_112 bf270_115 rfl (by decide +kernel) (Nat.le_of_ble_eq_true rfl) rfl (bhd rfl)
theorem bk270_66 {w : am_Wd} {l0 : Nat} {l1 : Nat} {l2 : Int32} {s0 : Int32} {s1 : Int32} {s2 : Int32} {s3 : Nat} : am_run 270 66 [some (.ref l0), some (.ref l1), some (.int l2), none, none, none, none, none, none, none, none, none] [.int s0, .int s1, .int s2, .ref s3] w = (am_kf w s3 8).bind fun _ => (am_x 90 [.ref s3, .int s2, .int s1, .int s0] w).bind fun r => bct r fun v w' => am_run 270 69 [some (.ref l0), some (.ref l1), some (.int l2), none, none, none, none, none, none, none, none, none] (v.toList ++ []) w' := by
  exact bkV bf270_66 bf270_69 rfl (by decide +kernel) (Nat.le_of_ble_eq_true rfl) rfl (bhd rfl)
theorem bk270_436 {w : am_Wd} {l1 : Nat} {s0 : Int64} : am_run 270 436 [none, some (.ref l1), none, none, none, none, none, none, none, none, none, none] [.long s0] w = (am_kf w l1 8).bind fun _ => (am_x 140 [.ref l1, .int (nI 0), .int (nI 0), .int (nI 35)] w).bind fun r => bct r fun v w' => am_run 270 445 [none, some (.ref l1), none, some (.long s0), none, none, none, none, none, none, none, none] (v.toList ++ []) w' := by
  refine (bu (ls'' := [none, some (.ref l1), none, some (.long s0), none, none, none, none, none, none, none, none]) (st' := []) bf270_436 bf270_437 rfl rfl).trans ?_
  refine (bu (ls'' := [none, some (.ref l1), none, some (.long s0), none, none, none, none, none, none, none, none]) (st' := [.ref l1]) bf270_437 bf270_438 rfl rfl).trans ?_
  refine (bu (ls'' := [none, some (.ref l1), none, some (.long s0), none, none, none, none, none, none, none, none]) (st' := [.int (nI 0), .ref l1]) bf270_438 bf270_439 rfl rfl).trans ?_
  refine (bu (ls'' := [none, some (.ref l1), none, some (.long s0), none, none, none, none, none, none, none, none]) (st' := [.int (nI 0), .int (nI 0), .ref l1]) bf270_439 bf270_440 rfl rfl).trans ?_
  refine (bu (ls'' := [none, some (.ref l1), none, some (.long s0), none, none, none, none, none, none, none, none]) (st' := [.int (nI 35), .int (nI 0), .int (nI 0), .ref l1]) bf270_440 bf270_442 rfl rfl).trans ?_
  exact bkV bf270_442 bf270_445 rfl (by decide +kernel) (Nat.le_of_ble_eq_true rfl) rfl (bhd rfl)
theorem bk270_186 {w : am_Wd} {l0 : Nat} {l1 : Nat} {l2 : Int32} {l3 : Int32} {s0 : Int32} : am_run 270 186 [some (.ref l0), some (.ref l1), some (.int l2), some (.int l3), none, none, none, none, none, none, none, none] [.int s0] w = (am_x 267 [.ref l0, .int (bj_irem (((nI 7) * l3) + (nI 3)) (nI 16))] w).bind fun r => bct r fun v w' => am_run 270 206 [some (.ref l0), some (.ref l1), some (.int l2), some (.int l3), some (.int (s0 + ((nI 31) * l3))), none, none, none, none, none, none, none] (v.toList ++ []) w' := by
  refine (bu (ls'' := [some (.ref l0), some (.ref l1), some (.int l2), some (.int l3), none, none, none, none, none, none, none, none]) (st' := [.int (nI 31), .int s0]) bf270_186 bf270_188 rfl rfl).trans ?_
  refine (bu (ls'' := [some (.ref l0), some (.ref l1), some (.int l2), some (.int l3), none, none, none, none, none, none, none, none]) (st' := [.int l3, .int (nI 31), .int s0]) bf270_188 bf270_189 rfl rfl).trans ?_
  refine (bu (ls'' := [some (.ref l0), some (.ref l1), some (.int l2), some (.int l3), none, none, none, none, none, none, none, none]) (st' := [.int ((nI 31) * l3), .int s0]) bf270_189 bf270_190 rfl rfl).trans ?_
  refine (bu (ls'' := [some (.ref l0), some (.ref l1), some (.int l2), some (.int l3), none, none, none, none, none, none, none, none]) (st' := [.int (s0 + ((nI 31) * l3))]) bf270_190 bf270_191 rfl rfl).trans ?_
  refine (bu (ls'' := [some (.ref l0), some (.ref l1), some (.int l2), some (.int l3), some (.int (s0 + ((nI 31) * l3))), none, none, none, none, none, none, none]) (st' := []) bf270_191 bf270_193 rfl rfl).trans ?_
  refine (bu (ls'' := [some (.ref l0), some (.ref l1), some (.int l2), some (.int l3), some (.int (s0 + ((nI 31) * l3))), none, none, none, none, none, none, none]) (st' := [.ref l0]) bf270_193 bf270_194 rfl rfl).trans ?_
  refine (bu (ls'' := [some (.ref l0), some (.ref l1), some (.int l2), some (.int l3), some (.int (s0 + ((nI 31) * l3))), none, none, none, none, none, none, none]) (st' := [.int (nI 7), .ref l0]) bf270_194 bf270_196 rfl rfl).trans ?_
  refine (bu (ls'' := [some (.ref l0), some (.ref l1), some (.int l2), some (.int l3), some (.int (s0 + ((nI 31) * l3))), none, none, none, none, none, none, none]) (st' := [.int l3, .int (nI 7), .ref l0]) bf270_196 bf270_197 rfl rfl).trans ?_
  refine (bu (ls'' := [some (.ref l0), some (.ref l1), some (.int l2), some (.int l3), some (.int (s0 + ((nI 31) * l3))), none, none, none, none, none, none, none]) (st' := [.int ((nI 7) * l3), .ref l0]) bf270_197 bf270_198 rfl rfl).trans ?_
  refine (bu (ls'' := [some (.ref l0), some (.ref l1), some (.int l2), some (.int l3), some (.int (s0 + ((nI 31) * l3))), none, none, none, none, none, none, none]) (st' := [.int (nI 3), .int ((nI 7) * l3), .ref l0]) bf270_198 bf270_199 rfl rfl).trans ?_
  refine (bu (ls'' := [some (.ref l0), some (.ref l1), some (.int l2), some (.int l3), some (.int (s0 + ((nI 31) * l3))), none, none, none, none, none, none, none]) (st' := [.int (((nI 7) * l3) + (nI 3)), .ref l0]) bf270_199 bf270_200 rfl rfl).trans ?_
  refine (bu (ls'' := [some (.ref l0), some (.ref l1), some (.int l2), some (.int l3), some (.int (s0 + ((nI 31) * l3))), none, none, none, none, none, none, none]) (st' := [.int (nI 16), .int (((nI 7) * l3) + (nI 3)), .ref l0]) bf270_200 bf270_202 rfl rfl).trans ?_
  refine (bu (ls'' := [some (.ref l0), some (.ref l1), some (.int l2), some (.int l3), some (.int (s0 + ((nI 31) * l3))), none, none, none, none, none, none, none]) (st' := [.int (bj_irem (((nI 7) * l3) + (nI 3)) (nI 16)), .ref l0]) bf270_202 bf270_203 rfl rfl).trans ?_
  exact bkS bf270_203 bf270_206 rfl (by decide +kernel) (Nat.le_of_ble_eq_true rfl) rfl (bhd rfl)
theorem bk270_115 {w : am_Wd} {l0 : Nat} {l1 : Nat} {l2 : Int32} {l3 : Int32} {s0 : Int32} {s1 : Int32} {s2 : Nat} : am_run 270 115 [some (.ref l0), some (.ref l1), some (.int l2), some (.int l3), none, none, none, none, none, none, none, none] [.int s0, .int s1, .ref s2] w = (am_x 266 [.int s0, .int (nI 4)] w).bind fun r => bct r fun v w' => am_run 270 119 [some (.ref l0), some (.ref l1), some (.int l2), some (.int l3), none, none, none, none, none, none, none, none] (v.toList ++ [.int s1, .ref s2]) w' := by
  refine (bu (ls'' := [some (.ref l0), some (.ref l1), some (.int l2), some (.int l3), none, none, none, none, none, none, none, none]) (st' := [.int (nI 4), .int s0, .int s1, .ref s2]) bf270_115 bf270_116 rfl rfl).trans ?_
  exact bkS bf270_116 bf270_119 rfl (by decide +kernel) (Nat.le_of_ble_eq_true rfl) rfl (bhd rfl)
theorem bk270_69 {w : am_Wd} {l0 : Nat} {l1 : Nat} {l2 : Int32} {s0 : Int32} : am_run 270 69 [some (.ref l0), some (.ref l1), some (.int l2), none, none, none, none, none, none, none, none, none] [.int s0] w = am_run 270 25 [some (.ref l0), some (.ref l1), some (.int (l2 + (nI 1))), none, none, none, none, none, none, none, none, none] [] w := by
  refine (bu (ls'' := [some (.ref l0), some (.ref l1), some (.int l2), none, none, none, none, none, none, none, none, none]) (st' := []) bf270_69 bf270_70 rfl rfl).trans ?_
  refine (bu (ls'' := [some (.ref l0), some (.ref l1), some (.int (l2 + (nI 1))), none, none, none, none, none, none, none, none, none]) (st' := []) bf270_70 bf270_73 rfl rfl).trans ?_
  refine (bu (ls'' := [some (.ref l0), some (.ref l1), some (.int (l2 + (nI 1))), none, none, none, none, none, none, none, none, none]) (st' := []) bf270_73 bf270_25 rfl rfl).trans ?_
  rfl
theorem bk270_445 {w : am_Wd} {l1 : Nat} {l3 : Int64} {s0 : Int32} : am_run 270 445 [none, some (.ref l1), none, some (.long l3), none, none, none, none, none, none, none, none] [.int s0] w = if s0 < (-1 : Int32) then am_run 270 480 [none, none, none, none, none, none, none, none, none, none, none, none] [] w else am_run 270 449 [none, some (.ref l1), none, some (.long l3), none, none, none, none, none, none, none, none] [] w := by
  refine (bu (ls'' := [none, some (.ref l1), none, some (.long l3), none, none, none, none, none, none, none, none]) (st' := [.int (-1 : Int32), .int s0]) bf270_445 bf270_446 rfl rfl).trans ?_
  exact bic bf270_446 rfl bf270_480 bf270_449 rfl rfl rfl
theorem bk270_206 {w : am_Wd} {l0 : Nat} {l1 : Nat} {l2 : Int32} {l3 : Int32} {l4 : Int32} {s0 : Int32} : am_run 270 206 [some (.ref l0), some (.ref l1), some (.int l2), some (.int l3), some (.int l4), none, none, none, none, none, none, none] [.int s0] w = (am_x 266 [.int (s0 + ((nI 5) * l3)), .int l2] w).bind fun r => bct r fun v w' => am_run 270 218 [some (.ref l0), some (.ref l1), some (.int l2), some (.int l3), some (.int l4), some (.int (s0 + ((nI 5) * l3))), none, none, none, none, none, none] (v.toList ++ []) w' := by
  refine (bu (ls'' := [some (.ref l0), some (.ref l1), some (.int l2), some (.int l3), some (.int l4), none, none, none, none, none, none, none]) (st' := [.int (nI 5), .int s0]) bf270_206 bf270_207 rfl rfl).trans ?_
  refine (bu (ls'' := [some (.ref l0), some (.ref l1), some (.int l2), some (.int l3), some (.int l4), none, none, none, none, none, none, none]) (st' := [.int l3, .int (nI 5), .int s0]) bf270_207 bf270_208 rfl rfl).trans ?_
  refine (bu (ls'' := [some (.ref l0), some (.ref l1), some (.int l2), some (.int l3), some (.int l4), none, none, none, none, none, none, none]) (st' := [.int ((nI 5) * l3), .int s0]) bf270_208 bf270_209 rfl rfl).trans ?_
  refine (bu (ls'' := [some (.ref l0), some (.ref l1), some (.int l2), some (.int l3), some (.int l4), none, none, none, none, none, none, none]) (st' := [.int (s0 + ((nI 5) * l3))]) bf270_209 bf270_210 rfl rfl).trans ?_
  refine (bu (ls'' := [some (.ref l0), some (.ref l1), some (.int l2), some (.int l3), some (.int l4), some (.int (s0 + ((nI 5) * l3))), none, none, none, none, none, none]) (st' := []) bf270_210 bf270_212 rfl rfl).trans ?_
  refine (bu (ls'' := [some (.ref l0), some (.ref l1), some (.int l2), some (.int l3), some (.int l4), some (.int (s0 + ((nI 5) * l3))), none, none, none, none, none, none]) (st' := [.int (s0 + ((nI 5) * l3))]) bf270_212 bf270_214 rfl rfl).trans ?_
  refine (bu (ls'' := [some (.ref l0), some (.ref l1), some (.int l2), some (.int l3), some (.int l4), some (.int (s0 + ((nI 5) * l3))), none, none, none, none, none, none]) (st' := [.int l2, .int (s0 + ((nI 5) * l3))]) bf270_214 bf270_215 rfl rfl).trans ?_
  exact bkS bf270_215 bf270_218 rfl (by decide +kernel) (Nat.le_of_ble_eq_true rfl) rfl (bhd rfl)
theorem bk270_119 {w : am_Wd} {l0 : Nat} {l1 : Nat} {l2 : Int32} {l3 : Int32} {s0 : Int32} {s1 : Int32} {s2 : Nat} : am_run 270 119 [some (.ref l0), some (.ref l1), some (.int l2), some (.int l3), none, none, none, none, none, none, none, none] [.int s0, .int s1, .ref s2] w = (am_x 267 [.ref l0, .int (l3 + (nI 5))] w).bind fun r => bct r fun v w' => am_run 270 128 [some (.ref l0), some (.ref l1), some (.int l2), some (.int l3), none, none, none, none, none, none, none, none] (v.toList ++ [.int (nI 30), .int s0, .int s1, .ref s2]) w' := by
  refine (bu (ls'' := [some (.ref l0), some (.ref l1), some (.int l2), some (.int l3), none, none, none, none, none, none, none, none]) (st' := [.int (nI 30), .int s0, .int s1, .ref s2]) bf270_119 bf270_121 rfl rfl).trans ?_
  refine (bu (ls'' := [some (.ref l0), some (.ref l1), some (.int l2), some (.int l3), none, none, none, none, none, none, none, none]) (st' := [.ref l0, .int (nI 30), .int s0, .int s1, .ref s2]) bf270_121 bf270_122 rfl rfl).trans ?_
  refine (bu (ls'' := [some (.ref l0), some (.ref l1), some (.int l2), some (.int l3), none, none, none, none, none, none, none, none]) (st' := [.int l3, .ref l0, .int (nI 30), .int s0, .int s1, .ref s2]) bf270_122 bf270_123 rfl rfl).trans ?_
  refine (bu (ls'' := [some (.ref l0), some (.ref l1), some (.int l2), some (.int l3), none, none, none, none, none, none, none, none]) (st' := [.int (nI 5), .int l3, .ref l0, .int (nI 30), .int s0, .int s1, .ref s2]) bf270_123 bf270_124 rfl rfl).trans ?_
  refine (bu (ls'' := [some (.ref l0), some (.ref l1), some (.int l2), some (.int l3), none, none, none, none, none, none, none, none]) (st' := [.int (l3 + (nI 5)), .ref l0, .int (nI 30), .int s0, .int s1, .ref s2]) bf270_124 bf270_125 rfl rfl).trans ?_
  exact bkS bf270_125 bf270_128 rfl (by decide +kernel) (Nat.le_of_ble_eq_true rfl) rfl (bhd rfl)
theorem bk270_480 {w : am_Wd}  : am_run 270 480 [none, none, none, none, none, none, none, none, none, none, none, none] [] w = am_run 270 481 [none, none, none, none, none, none, none, none, none, none, none, none] [.int (nI 0)] w := by
  refine (bu (ls'' := [none, none, none, none, none, none, none, none, none, none, none, none]) (st' := [.int (nI 0)]) bf270_480 bf270_481 rfl rfl).trans ?_
  rfl
theorem bk270_449 {w : am_Wd} {l1 : Nat} {l3 : Int64} : am_run 270 449 [none, some (.ref l1), none, some (.long l3), none, none, none, none, none, none, none, none] [] w = (am_kf w l1 8).bind fun _ => (am_x 202 [.ref l1, .int (nI 0), .int (nI 3)] w).bind fun r => bct r fun v w' => am_run 270 455 [none, some (.ref l1), none, some (.long l3), none, none, none, none, none, none, none, none] (v.toList ++ []) w' := by
  refine (bu (ls'' := [none, some (.ref l1), none, some (.long l3), none, none, none, none, none, none, none, none]) (st' := [.ref l1]) bf270_449 bf270_450 rfl rfl).trans ?_
  refine (bu (ls'' := [none, some (.ref l1), none, some (.long l3), none, none, none, none, none, none, none, none]) (st' := [.int (nI 0), .ref l1]) bf270_450 bf270_451 rfl rfl).trans ?_
  refine (bu (ls'' := [none, some (.ref l1), none, some (.long l3), none, none, none, none, none, none, none, none]) (st' := [.int (nI 3), .int (nI 0), .ref l1]) bf270_451 bf270_452 rfl rfl).trans ?_
  exact bkV bf270_452 bf270_455 rfl (by decide +kernel) (Nat.le_of_ble_eq_true rfl) rfl (bhd rfl)
theorem bk270_218 {w : am_Wd} {l0 : Nat} {l1 : Nat} {l2 : Int32} {l3 : Int32} {l4 : Int32} {l5 : Int32} {s0 : Int32} : am_run 270 218 [some (.ref l0), some (.ref l1), some (.int l2), some (.int l3), some (.int l4), some (.int l5), none, none, none, none, none, none] [.int s0] w = (am_na w 0 (nI 13)).bind fun w' => am_run 270 224 [some (.ref l0), some (.ref l1), some (.int l2), some (.int l3), some (.int l4), some (.int l5), some (.int s0), none, none, none, none, none] (.ref w.2.1 :: []) w' := by
  refine (bu (ls'' := [some (.ref l0), some (.ref l1), some (.int l2), some (.int l3), some (.int l4), some (.int l5), some (.int s0), none, none, none, none, none]) (st' := []) bf270_218 bf270_220 rfl rfl).trans ?_
  refine (bu (ls'' := [some (.ref l0), some (.ref l1), some (.int l2), some (.int l3), some (.int l4), some (.int l5), some (.int s0), none, none, none, none, none]) (st' := [.int (nI 13)]) bf270_220 bf270_222 rfl rfl).trans ?_
  exact bh bf270_222 bf270_224 rfl (bge_na) rfl
theorem bk270_128 {w : am_Wd} {l0 : Nat} {l1 : Nat} {l2 : Int32} {l3 : Int32} {s0 : Int32} {s1 : Int32} {s2 : Int32} {s3 : Int32} {s4 : Nat} : am_run 270 128 [some (.ref l0), some (.ref l1), some (.int l2), some (.int l3), none, none, none, none, none, none, none, none] [.int s0, .int s1, .int s2, .int s3, .ref s4] w = (am_x 266 [.int s0, .int (nI 400)] w).bind fun r => bct r fun v w' => am_run 270 134 [some (.ref l0), some (.ref l1), some (.int l2), some (.int l3), none, none, none, none, none, none, none, none] (v.toList ++ [.int s1, .int s2, .int s3, .ref s4]) w' := by
  refine (bu (ls'' := [some (.ref l0), some (.ref l1), some (.int l2), some (.int l3), none, none, none, none, none, none, none, none]) (st' := [.int (nI 400), .int s0, .int s1, .int s2, .int s3, .ref s4]) bf270_128 bf270_131 rfl rfl).trans ?_
  exact bkS bf270_131 bf270_134 rfl (by decide +kernel) (Nat.le_of_ble_eq_true rfl) rfl (bhd rfl)
theorem bk270_481 {w : am_Wd} {s0 : Int32} (hb : am_ok (am_rt 1) (.int s0) = true) : am_run 270 481 [none, none, none, none, none, none, none, none, none, none, none, none] [.int s0] w = some (.inl (some (.int s0)), w) := by
  exact am_e2 bf270_481 (by unfold am_stp; exact if_pos ⟨by decide, hb⟩) (am_ge_rf w)
theorem bk270_455 {w : am_Wd} {l1 : Nat} {l3 : Int64} {s0 : Int32} : am_run 270 455 [none, some (.ref l1), none, some (.long l3), none, none, none, none, none, none, none, none] [.int s0] w = if s0 < (nI 1) then am_run 270 480 [none, none, none, none, none, none, none, none, none, none, none, none] [] w else am_run 270 459 [none, some (.ref l1), none, some (.long l3), none, none, none, none, none, none, none, none] [] w := by
  refine (bu (ls'' := [none, some (.ref l1), none, some (.long l3), none, none, none, none, none, none, none, none]) (st' := [.int (nI 1), .int s0]) bf270_455 bf270_456 rfl rfl).trans ?_
  exact bic bf270_456 rfl bf270_480 bf270_459 rfl rfl rfl
theorem bk270_224 {w : am_Wd} {l0 : Nat} {l1 : Nat} {l2 : Int32} {l3 : Int32} {l4 : Int32} {l5 : Int32} {l6 : Int32} {s0 : Nat} : am_run 270 224 [some (.ref l0), some (.ref l1), some (.int l2), some (.int l3), some (.int l4), some (.int l5), some (.int l6), none, none, none, none, none] [.ref s0] w = am_run 270 229 [some (.ref l0), some (.ref l1), some (.int l2), some (.int l3), some (.int l4), some (.int l5), some (.int l6), some (.ref s0), some (.int (nI 0)), none, none, none] [] w := by
  refine (bu (ls'' := [some (.ref l0), some (.ref l1), some (.int l2), some (.int l3), some (.int l4), some (.int l5), some (.int l6), some (.ref s0), none, none, none, none]) (st' := []) bf270_224 bf270_226 rfl rfl).trans ?_
  refine (bu (ls'' := [some (.ref l0), some (.ref l1), some (.int l2), some (.int l3), some (.int l4), some (.int l5), some (.int l6), some (.ref s0), none, none, none, none]) (st' := [.int (nI 0)]) bf270_226 bf270_227 rfl rfl).trans ?_
  refine (bu (ls'' := [some (.ref l0), some (.ref l1), some (.int l2), some (.int l3), some (.int l4), some (.int l5), some (.int l6), some (.ref s0), some (.int (nI 0)), none, none, none]) (st' := []) bf270_227 bf270_229 rfl rfl).trans ?_
  rfl
theorem bk270_134 {w : am_Wd} {l0 : Nat} {l1 : Nat} {l2 : Int32} {l3 : Int32} {s0 : Int32} {s1 : Int32} {s2 : Int32} {s3 : Int32} {s4 : Nat} : am_run 270 134 [some (.ref l0), some (.ref l1), some (.int l2), some (.int l3), none, none, none, none, none, none, none, none] [.int s0, .int s1, .int s2, .int s3, .ref s4] w = (am_x 267 [.ref l0, .int (l3 + (nI 6))] w).bind fun r => bct r fun v w' => am_run 270 143 [some (.ref l0), some (.ref l1), some (.int l2), some (.int l3), none, none, none, none, none, none, none, none] (v.toList ++ [.int (s1 + s0), .int s2, .int s3, .ref s4]) w' := by
  refine (bu (ls'' := [some (.ref l0), some (.ref l1), some (.int l2), some (.int l3), none, none, none, none, none, none, none, none]) (st' := [.int (s1 + s0), .int s2, .int s3, .ref s4]) bf270_134 bf270_135 rfl rfl).trans ?_
  refine (bu (ls'' := [some (.ref l0), some (.ref l1), some (.int l2), some (.int l3), none, none, none, none, none, none, none, none]) (st' := [.ref l0, .int (s1 + s0), .int s2, .int s3, .ref s4]) bf270_135 bf270_136 rfl rfl).trans ?_
  refine (bu (ls'' := [some (.ref l0), some (.ref l1), some (.int l2), some (.int l3), none, none, none, none, none, none, none, none]) (st' := [.int l3, .ref l0, .int (s1 + s0), .int s2, .int s3, .ref s4]) bf270_136 bf270_137 rfl rfl).trans ?_
  refine (bu (ls'' := [some (.ref l0), some (.ref l1), some (.int l2), some (.int l3), none, none, none, none, none, none, none, none]) (st' := [.int (nI 6), .int l3, .ref l0, .int (s1 + s0), .int s2, .int s3, .ref s4]) bf270_137 bf270_139 rfl rfl).trans ?_
  refine (bu (ls'' := [some (.ref l0), some (.ref l1), some (.int l2), some (.int l3), none, none, none, none, none, none, none, none]) (st' := [.int (l3 + (nI 6)), .ref l0, .int (s1 + s0), .int s2, .int s3, .ref s4]) bf270_139 bf270_140 rfl rfl).trans ?_
  exact bkS bf270_140 bf270_143 rfl (by decide +kernel) (Nat.le_of_ble_eq_true rfl) rfl (bhd rfl)
theorem bk270_459 {w : am_Wd} {l1 : Nat} {l3 : Int64} : am_run 270 459 [none, some (.ref l1), none, some (.long l3), none, none, none, none, none, none, none, none] [] w = (am_kf w l1 8).bind fun _ => (am_x 250 [.ref l1] w).bind fun r => bct r fun v w' => am_run 270 463 [none, some (.ref l1), none, some (.long l3), none, none, none, none, none, none, none, none] (v.toList ++ []) w' := by
  refine (bu (ls'' := [none, some (.ref l1), none, some (.long l3), none, none, none, none, none, none, none, none]) (st' := [.ref l1]) bf270_459 bf270_460 rfl rfl).trans ?_
  exact bkV bf270_460 bf270_463 rfl (by decide +kernel) (Nat.le_of_ble_eq_true rfl) rfl (bhd rfl)
theorem bk270_229 {w : am_Wd} {l0 : Nat} {l1 : Nat} {l2 : Int32} {l3 : Int32} {l4 : Int32} {l5 : Int32} {l6 : Int32} {l7 : Nat} {l8 : Int32} : am_run 270 229 [some (.ref l0), some (.ref l1), some (.int l2), some (.int l3), some (.int l4), some (.int l5), some (.int l6), some (.ref l7), some (.int l8), none, none, none] [] w = if (nI 13) ≤ l8 then am_run 270 255 [some (.ref l0), some (.ref l1), some (.int l2), some (.int l3), some (.int l4), some (.int l5), some (.int l6), some (.ref l7), none, none, none, none] [] w else am_run 270 236 [some (.ref l0), some (.ref l1), some (.int l2), some (.int l3), some (.int l4), some (.int l5), some (.int l6), some (.ref l7), some (.int l8), none, none, none] [] w := by
  refine (bu (ls'' := [some (.ref l0), some (.ref l1), some (.int l2), some (.int l3), some (.int l4), some (.int l5), some (.int l6), some (.ref l7), some (.int l8), none, none, none]) (st' := [.int l8]) bf270_229 bf270_231 rfl rfl).trans ?_
  refine (bu (ls'' := [some (.ref l0), some (.ref l1), some (.int l2), some (.int l3), some (.int l4), some (.int l5), some (.int l6), some (.ref l7), some (.int l8), none, none, none]) (st' := [.int (nI 13), .int l8]) bf270_231 bf270_233 rfl rfl).trans ?_
  exact bic bf270_233 rfl bf270_255 bf270_236 rfl rfl rfl
theorem bk270_143 {w : am_Wd} {l0 : Nat} {l1 : Nat} {l2 : Int32} {l3 : Int32} {s0 : Int32} {s1 : Int32} {s2 : Int32} {s3 : Int32} {s4 : Nat} : am_run 270 143 [some (.ref l0), some (.ref l1), some (.int l2), some (.int l3), none, none, none, none, none, none, none, none] [.int s0, .int s1, .int s2, .int s3, .ref s4] w = (am_x 266 [.int s0, .int (nI 3)] w).bind fun r => bct r fun v w' => am_run 270 147 [some (.ref l0), some (.ref l1), some (.int l2), some (.int l3), none, none, none, none, none, none, none, none] (v.toList ++ [.int s1, .int s2, .int s3, .ref s4]) w' := by
  refine (bu (ls'' := [some (.ref l0), some (.ref l1), some (.int l2), some (.int l3), none, none, none, none, none, none, none, none]) (st' := [.int (nI 3), .int s0, .int s1, .int s2, .int s3, .ref s4]) bf270_143 bf270_144 rfl rfl).trans ?_
  exact bkS bf270_144 bf270_147 rfl (by decide +kernel) (Nat.le_of_ble_eq_true rfl) rfl (bhd rfl)
theorem bk270_463 {w : am_Wd} {l1 : Nat} {l3 : Int64} {s0 : Int64} : am_run 270 463 [none, some (.ref l1), none, some (.long l3), none, none, none, none, none, none, none, none] [.long s0] w = if ¬ (lg_cmp s0 l3) = nI 0 then am_run 270 480 [none, none, none, none, none, none, none, none, none, none, none, none] [] w else am_run 270 468 [none, some (.ref l1), none, none, none, none, none, none, none, none, none, none] [] w := by
  refine (bu (ls'' := [none, some (.ref l1), none, none, none, none, none, none, none, none, none, none]) (st' := [.long l3, .long s0]) bf270_463 bf270_464 rfl rfl).trans ?_
  refine (bu (ls'' := [none, some (.ref l1), none, none, none, none, none, none, none, none, none, none]) (st' := [.int (lg_cmp s0 l3)]) bf270_464 bf270_465 rfl rfl).trans ?_
  exact bifc bf270_465 rfl bf270_480 bf270_468 rfl rfl rfl
theorem bk270_255 {w : am_Wd} {l0 : Nat} {l1 : Nat} {l2 : Int32} {l3 : Int32} {l4 : Int32} {l5 : Int32} {l6 : Int32} {l7 : Nat} : am_run 270 255 [some (.ref l0), some (.ref l1), some (.int l2), some (.int l3), some (.int l4), some (.int l5), some (.int l6), some (.ref l7), none, none, none, none] [] w = (am_kf w l1 8).bind fun _ => (am_x 136 [.ref l1, .int (nI 0)] w).bind fun r => bct r fun v w' => am_run 270 260 [some (.ref l0), some (.ref l1), some (.int l2), some (.int l3), some (.int l4), some (.int l5), some (.int l6), some (.ref l7), none, none, none, none] (v.toList ++ []) w' := by
  refine (bu (ls'' := [some (.ref l0), some (.ref l1), some (.int l2), some (.int l3), some (.int l4), some (.int l5), some (.int l6), some (.ref l7), none, none, none, none]) (st' := [.ref l1]) bf270_255 bf270_256 rfl rfl).trans ?_
  refine (bu (ls'' := [some (.ref l0), some (.ref l1), some (.int l2), some (.int l3), some (.int l4), some (.int l5), some (.int l6), some (.ref l7), none, none, none, none]) (st' := [.int (nI 0), .ref l1]) bf270_256 bf270_257 rfl rfl).trans ?_
  exact bkV bf270_257 bf270_260 rfl (by decide +kernel) (Nat.le_of_ble_eq_true rfl) rfl (bhd rfl)
theorem bk270_236 {w : am_Wd} {l0 : Nat} {l1 : Nat} {l2 : Int32} {l3 : Int32} {l4 : Int32} {l5 : Int32} {l6 : Int32} {l7 : Nat} {l8 : Int32} : am_run 270 236 [some (.ref l0), some (.ref l1), some (.int l2), some (.int l3), some (.int l4), some (.int l5), some (.int l6), some (.ref l7), some (.int l8), none, none, none] [] w = (am_kf w l1 8).bind fun _ => (am_x 201 [.ref l1, .int l6, .int l8] w).bind fun r => bct r fun v w' => am_run 270 248 [some (.ref l0), some (.ref l1), some (.int l2), some (.int l3), some (.int l4), some (.int l5), some (.int l6), some (.ref l7), some (.int l8), none, none, none] (v.toList ++ [.int l8, .ref l7]) w' := by
  refine (bu (ls'' := [some (.ref l0), some (.ref l1), some (.int l2), some (.int l3), some (.int l4), some (.int l5), some (.int l6), some (.ref l7), some (.int l8), none, none, none]) (st' := [.ref l7]) bf270_236 bf270_238 rfl rfl).trans ?_
  refine (bu (ls'' := [some (.ref l0), some (.ref l1), some (.int l2), some (.int l3), some (.int l4), some (.int l5), some (.int l6), some (.ref l7), some (.int l8), none, none, none]) (st' := [.int l8, .ref l7]) bf270_238 bf270_240 rfl rfl).trans ?_
  refine (bu (ls'' := [some (.ref l0), some (.ref l1), some (.int l2), some (.int l3), some (.int l4), some (.int l5), some (.int l6), some (.ref l7), some (.int l8), none, none, none]) (st' := [.ref l1, .int l8, .ref l7]) bf270_240 bf270_241 rfl rfl).trans ?_
  refine (bu (ls'' := [some (.ref l0), some (.ref l1), some (.int l2), some (.int l3), some (.int l4), some (.int l5), some (.int l6), some (.ref l7), some (.int l8), none, none, none]) (st' := [.int l6, .ref l1, .int l8, .ref l7]) bf270_241 bf270_243 rfl rfl).trans ?_
  refine (bu (ls'' := [some (.ref l0), some (.ref l1), some (.int l2), some (.int l3), some (.int l4), some (.int l5), some (.int l6), some (.ref l7), some (.int l8), none, none, none]) (st' := [.int l8, .int l6, .ref l1, .int l8, .ref l7]) bf270_243 bf270_245 rfl rfl).trans ?_
  exact bkV bf270_245 bf270_248 rfl (by decide +kernel) (Nat.le_of_ble_eq_true rfl) rfl (bhd rfl)
theorem bk270_147 {w : am_Wd} {l0 : Nat} {l1 : Nat} {l2 : Int32} {l3 : Int32} {s0 : Int32} {s1 : Int32} {s2 : Int32} {s3 : Int32} {s4 : Nat} : am_run 270 147 [some (.ref l0), some (.ref l1), some (.int l2), some (.int l3), none, none, none, none, none, none, none, none] [.int s0, .int s1, .int s2, .int s3, .ref s4] w = if s0 ≤ nI 0 then am_run 270 154 [some (.ref l0), some (.ref l1), some (.int l2), some (.int l3), none, none, none, none, none, none, none, none] [.int s1, .int s2, .int s3, .ref s4] w else am_run 270 150 [some (.ref l0), some (.ref l1), some (.int l2), some (.int l3), none, none, none, none, none, none, none, none] [.int s1, .int s2, .int s3, .ref s4] w := by
  exact bifc bf270_147 rfl bf270_154 bf270_150 rfl rfl rfl
theorem bk270_468 {w : am_Wd} {l1 : Nat} : am_run 270 468 [none, some (.ref l1), none, none, none, none, none, none, none, none, none, none] [] w = (am_kf w l1 8).bind fun _ => (am_x 24 [.ref l1] w).bind fun r => bct r fun v w' => am_run 270 472 [none, none, none, none, none, none, none, none, none, none, none, none] (v.toList ++ []) w' := by
  refine (bu (ls'' := [none, none, none, none, none, none, none, none, none, none, none, none]) (st' := [.ref l1]) bf270_468 bf270_469 rfl rfl).trans ?_
  exact bkV bf270_469 bf270_472 rfl (by decide +kernel) (Nat.le_of_ble_eq_true rfl) rfl (bhd rfl)
theorem bk270_260 {w : am_Wd} {l0 : Nat} {l1 : Nat} {l2 : Int32} {l3 : Int32} {l4 : Int32} {l5 : Int32} {l6 : Int32} {l7 : Nat} {s0 : Int32} : am_run 270 260 [some (.ref l0), some (.ref l1), some (.int l2), some (.int l3), some (.int l4), some (.int l5), some (.int l6), some (.ref l7), none, none, none, none] [.int s0] w = (am_kf w l1 8).bind fun _ => (am_x 136 [.ref l1, .int (nI 8)] w).bind fun r => bct r fun v w' => am_run 270 268 [some (.ref l0), some (.ref l1), some (.int l2), some (.int l3), some (.int l4), some (.int l5), some (.int l6), some (.ref l7), some (.int s0), none, none, none] (v.toList ++ []) w' := by
  refine (bu (ls'' := [some (.ref l0), some (.ref l1), some (.int l2), some (.int l3), some (.int l4), some (.int l5), some (.int l6), some (.ref l7), some (.int s0), none, none, none]) (st' := []) bf270_260 bf270_262 rfl rfl).trans ?_
  refine (bu (ls'' := [some (.ref l0), some (.ref l1), some (.int l2), some (.int l3), some (.int l4), some (.int l5), some (.int l6), some (.ref l7), some (.int s0), none, none, none]) (st' := [.ref l1]) bf270_262 bf270_263 rfl rfl).trans ?_
  refine (bu (ls'' := [some (.ref l0), some (.ref l1), some (.int l2), some (.int l3), some (.int l4), some (.int l5), some (.int l6), some (.ref l7), some (.int s0), none, none, none]) (st' := [.int (nI 8), .ref l1]) bf270_263 bf270_265 rfl rfl).trans ?_
  exact bkV bf270_265 bf270_268 rfl (by decide +kernel) (Nat.le_of_ble_eq_true rfl) rfl (bhd rfl)
theorem bk270_248 {w : am_Wd} {l0 : Nat} {l1 : Nat} {l2 : Int32} {l3 : Int32} {l4 : Int32} {l5 : Int32} {l6 : Int32} {l7 : Nat} {l8 : Int32} {s0 : Int32} {s1 : Int32} {s2 : Nat} : am_run 270 248 [some (.ref l0), some (.ref l1), some (.int l2), some (.int l3), some (.int l4), some (.int l5), some (.int l6), some (.ref l7), some (.int l8), none, none, none] [.int s0, .int s1, .ref s2] w = (am_wi 0 w s2 s1 s0).bind fun w' => am_run 270 249 [some (.ref l0), some (.ref l1), some (.int l2), some (.int l3), some (.int l4), some (.int l5), some (.int l6), some (.ref l7), some (.int l8), none, none, none] [] w' := by
  exact bh bf270_248 bf270_249 rfl (bge_wi) rfl
theorem bk270_154 {w : am_Wd} {l0 : Nat} {l1 : Nat} {l2 : Int32} {l3 : Int32} {s0 : Int32} {s1 : Int32} {s2 : Int32} {s3 : Nat} : am_run 270 154 [some (.ref l0), some (.ref l1), some (.int l2), some (.int l3), none, none, none, none, none, none, none, none] [.int s0, .int s1, .int s2, .ref s3] w = am_run 270 155 [some (.ref l0), some (.ref l1), some (.int l2), some (.int l3), none, none, none, none, none, none, none, none] [.int (nI 0), .int s0, .int s1, .int s2, .ref s3] w := by
  refine (bu (ls'' := [some (.ref l0), some (.ref l1), some (.int l2), some (.int l3), none, none, none, none, none, none, none, none]) (st' := [.int (nI 0), .int s0, .int s1, .int s2, .ref s3]) bf270_154 bf270_155 rfl rfl).trans ?_
  rfl
theorem bk270_150 {w : am_Wd} {l0 : Nat} {l1 : Nat} {l2 : Int32} {l3 : Int32} {s0 : Int32} {s1 : Int32} {s2 : Int32} {s3 : Nat} : am_run 270 150 [some (.ref l0), some (.ref l1), some (.int l2), some (.int l3), none, none, none, none, none, none, none, none] [.int s0, .int s1, .int s2, .ref s3] w = am_run 270 155 [some (.ref l0), some (.ref l1), some (.int l2), some (.int l3), none, none, none, none, none, none, none, none] [.int (nI 1), .int s0, .int s1, .int s2, .ref s3] w := by
  refine (bu (ls'' := [some (.ref l0), some (.ref l1), some (.int l2), some (.int l3), none, none, none, none, none, none, none, none]) (st' := [.int (nI 1), .int s0, .int s1, .int s2, .ref s3]) bf270_150 bf270_151 rfl rfl).trans ?_
  refine (bu (ls'' := [some (.ref l0), some (.ref l1), some (.int l2), some (.int l3), none, none, none, none, none, none, none, none]) (st' := [.int (nI 1), .int s0, .int s1, .int s2, .ref s3]) bf270_151 bf270_155 rfl rfl).trans ?_
  rfl
theorem bk270_472 {w : am_Wd} {s0 : Int32} : am_run 270 472 [none, none, none, none, none, none, none, none, none, none, none, none] [.int s0] w = if ¬ s0 = (nI 1) then am_run 270 480 [none, none, none, none, none, none, none, none, none, none, none, none] [] w else am_run 270 476 [none, none, none, none, none, none, none, none, none, none, none, none] [] w := by
  refine (bu (ls'' := [none, none, none, none, none, none, none, none, none, none, none, none]) (st' := [.int (nI 1), .int s0]) bf270_472 bf270_473 rfl rfl).trans ?_
  exact bic bf270_473 rfl bf270_480 bf270_476 rfl rfl rfl
theorem bk270_268 {w : am_Wd} {l0 : Nat} {l1 : Nat} {l2 : Int32} {l3 : Int32} {l4 : Int32} {l5 : Int32} {l6 : Int32} {l7 : Nat} {l8 : Int32} {s0 : Int32} : am_run 270 268 [some (.ref l0), some (.ref l1), some (.int l2), some (.int l3), some (.int l4), some (.int l5), some (.int l6), some (.ref l7), some (.int l8), none, none, none] [.int s0] w = (am_x 266 [.int l4, .int (nI 8)] w).bind fun r => bct r fun v w' => am_run 270 277 [some (.ref l0), some (.ref l1), some (.int l2), some (.int l3), some (.int l4), some (.int l5), some (.int l6), some (.ref l7), some (.int l8), some (.int s0), none, none] (v.toList ++ []) w' := by
  refine (bu (ls'' := [some (.ref l0), some (.ref l1), some (.int l2), some (.int l3), some (.int l4), some (.int l5), some (.int l6), some (.ref l7), some (.int l8), some (.int s0), none, none]) (st' := []) bf270_268 bf270_270 rfl rfl).trans ?_
  refine (bu (ls'' := [some (.ref l0), some (.ref l1), some (.int l2), some (.int l3), some (.int l4), some (.int l5), some (.int l6), some (.ref l7), some (.int l8), some (.int s0), none, none]) (st' := [.int l4]) bf270_270 bf270_272 rfl rfl).trans ?_
  refine (bu (ls'' := [some (.ref l0), some (.ref l1), some (.int l2), some (.int l3), some (.int l4), some (.int l5), some (.int l6), some (.ref l7), some (.int l8), some (.int s0), none, none]) (st' := [.int (nI 8), .int l4]) bf270_272 bf270_274 rfl rfl).trans ?_
  exact bkS bf270_274 bf270_277 rfl (by decide +kernel) (Nat.le_of_ble_eq_true rfl) rfl (bhd rfl)
theorem bk270_249 {w : am_Wd} {l0 : Nat} {l1 : Nat} {l2 : Int32} {l3 : Int32} {l4 : Int32} {l5 : Int32} {l6 : Int32} {l7 : Nat} {l8 : Int32} : am_run 270 249 [some (.ref l0), some (.ref l1), some (.int l2), some (.int l3), some (.int l4), some (.int l5), some (.int l6), some (.ref l7), some (.int l8), none, none, none] [] w = am_run 270 229 [some (.ref l0), some (.ref l1), some (.int l2), some (.int l3), some (.int l4), some (.int l5), some (.int l6), some (.ref l7), some (.int (l8 + (nI 1))), none, none, none] [] w := by
  refine (bu (ls'' := [some (.ref l0), some (.ref l1), some (.int l2), some (.int l3), some (.int l4), some (.int l5), some (.int l6), some (.ref l7), some (.int (l8 + (nI 1))), none, none, none]) (st' := []) bf270_249 bf270_252 rfl rfl).trans ?_
  refine (bu (ls'' := [some (.ref l0), some (.ref l1), some (.int l2), some (.int l3), some (.int l4), some (.int l5), some (.int l6), some (.ref l7), some (.int (l8 + (nI 1))), none, none, none]) (st' := []) bf270_252 bf270_229 rfl rfl).trans ?_
  rfl
theorem bk270_155 {w : am_Wd} {l0 : Nat} {l1 : Nat} {l2 : Int32} {l3 : Int32} {s0 : Int32} {s1 : Int32} {s2 : Int32} {s3 : Int32} {s4 : Nat} : am_run 270 155 [some (.ref l0), some (.ref l1), some (.int l2), some (.int l3), none, none, none, none, none, none, none, none] [.int s0, .int s1, .int s2, .int s3, .ref s4] w = (am_kf w s4 8).bind fun _ => (am_x 167 [.ref s4, .int s3, .int s2, .int s1, .int s0] w).bind fun r => bct r fun v w' => am_run 270 158 [some (.ref l0), some (.ref l1), some (.int l2), some (.int l3), none, none, none, none, none, none, none, none] (v.toList ++ []) w' := by
  exact bkV bf270_155 bf270_158 rfl (by decide +kernel) (Nat.le_of_ble_eq_true rfl) rfl (bhd rfl)
theorem bk270_476 {w : am_Wd}  : am_run 270 476 [none, none, none, none, none, none, none, none, none, none, none, none] [] w = am_run 270 481 [none, none, none, none, none, none, none, none, none, none, none, none] [.int (nI 1)] w := by
  refine (bu (ls'' := [none, none, none, none, none, none, none, none, none, none, none, none]) (st' := [.int (nI 1)]) bf270_476 bf270_477 rfl rfl).trans ?_
  refine (bu (ls'' := [none, none, none, none, none, none, none, none, none, none, none, none]) (st' := [.int (nI 1)]) bf270_477 bf270_481 rfl rfl).trans ?_
  rfl
theorem bk270_277 {w : am_Wd} {l0 : Nat} {l1 : Nat} {l2 : Int32} {l3 : Int32} {l4 : Int32} {l5 : Int32} {l6 : Int32} {l7 : Nat} {l8 : Int32} {l9 : Int32} {s0 : Int32} : am_run 270 277 [some (.ref l0), some (.ref l1), some (.int l2), some (.int l3), some (.int l4), some (.int l5), some (.int l6), some (.ref l7), some (.int l8), some (.int l9), none, none] [.int s0] w = if ¬ s0 = (nI 6) then am_run 270 286 [some (.ref l0), some (.ref l1), some (.int l2), some (.int l3), some (.int l4), some (.int l5), some (.int l6), some (.ref l7), some (.int l8), some (.int l9), none, none] [] w else am_run 270 282 [some (.ref l0), some (.ref l1), some (.int l2), some (.int l3), some (.int l4), some (.int l5), some (.int l6), some (.ref l7), some (.int l8), some (.int l9), none, none] [] w := by
  refine (bu (ls'' := [some (.ref l0), some (.ref l1), some (.int l2), some (.int l3), some (.int l4), some (.int l5), some (.int l6), some (.ref l7), some (.int l8), some (.int l9), none, none]) (st' := [.int (nI 6), .int s0]) bf270_277 bf270_279 rfl rfl).trans ?_
  exact bic bf270_279 rfl bf270_286 bf270_282 rfl rfl rfl
theorem bk270_158 {w : am_Wd} {l0 : Nat} {l1 : Nat} {l2 : Int32} {l3 : Int32} {s0 : Int32} : am_run 270 158 [some (.ref l0), some (.ref l1), some (.int l2), some (.int l3), none, none, none, none, none, none, none, none] [.int s0] w = if s0 = l3 then am_run 270 164 [some (.ref l0), some (.ref l1), some (.int l2), some (.int l3), none, none, none, none, none, none, none, none] [] w else am_run 270 162 [none, none, none, none, none, none, none, none, none, none, none, none] [] w := by
  refine (bu (ls'' := [some (.ref l0), some (.ref l1), some (.int l2), some (.int l3), none, none, none, none, none, none, none, none]) (st' := [.int l3, .int s0]) bf270_158 bf270_159 rfl rfl).trans ?_
  exact bic bf270_159 rfl bf270_164 bf270_162 rfl rfl rfl
theorem bk270_286 {w : am_Wd} {l0 : Nat} {l1 : Nat} {l2 : Int32} {l3 : Int32} {l4 : Int32} {l5 : Int32} {l6 : Int32} {l7 : Nat} {l8 : Int32} {l9 : Int32} : am_run 270 286 [some (.ref l0), some (.ref l1), some (.int l2), some (.int l3), some (.int l4), some (.int l5), some (.int l6), some (.ref l7), some (.int l8), some (.int l9), none, none] [] w = am_run 270 287 [some (.ref l0), some (.ref l1), some (.int l2), some (.int l3), some (.int l4), some (.int l5), some (.int l6), some (.ref l7), some (.int l8), some (.int l9), none, none] [.int (nI 0)] w := by
  refine (bu (ls'' := [some (.ref l0), some (.ref l1), some (.int l2), some (.int l3), some (.int l4), some (.int l5), some (.int l6), some (.ref l7), some (.int l8), some (.int l9), none, none]) (st' := [.int (nI 0)]) bf270_286 bf270_287 rfl rfl).trans ?_
  rfl
theorem bk270_282 {w : am_Wd} {l0 : Nat} {l1 : Nat} {l2 : Int32} {l3 : Int32} {l4 : Int32} {l5 : Int32} {l6 : Int32} {l7 : Nat} {l8 : Int32} {l9 : Int32} : am_run 270 282 [some (.ref l0), some (.ref l1), some (.int l2), some (.int l3), some (.int l4), some (.int l5), some (.int l6), some (.ref l7), some (.int l8), some (.int l9), none, none] [] w = am_run 270 287 [some (.ref l0), some (.ref l1), some (.int l2), some (.int l3), some (.int l4), some (.int l5), some (.int l6), some (.ref l7), some (.int l8), some (.int l9), none, none] [.int (nI 1)] w := by
  refine (bu (ls'' := [some (.ref l0), some (.ref l1), some (.int l2), some (.int l3), some (.int l4), some (.int l5), some (.int l6), some (.ref l7), some (.int l8), some (.int l9), none, none]) (st' := [.int (nI 1)]) bf270_282 bf270_283 rfl rfl).trans ?_
  refine (bu (ls'' := [some (.ref l0), some (.ref l1), some (.int l2), some (.int l3), some (.int l4), some (.int l5), some (.int l6), some (.ref l7), some (.int l8), some (.int l9), none, none]) (st' := [.int (nI 1)]) bf270_283 bf270_287 rfl rfl).trans ?_
  rfl
theorem bk270_164 {w : am_Wd} {l0 : Nat} {l1 : Nat} {l2 : Int32} {l3 : Int32} : am_run 270 164 [some (.ref l0), some (.ref l1), some (.int l2), some (.int l3), none, none, none, none, none, none, none, none] [] w = am_run 270 90 [some (.ref l0), some (.ref l1), some (.int l2), some (.int (l3 + (nI 1))), none, none, none, none, none, none, none, none] [] w := by
  refine (bu (ls'' := [some (.ref l0), some (.ref l1), some (.int l2), some (.int (l3 + (nI 1))), none, none, none, none, none, none, none, none]) (st' := []) bf270_164 bf270_167 rfl rfl).trans ?_
  refine (bu (ls'' := [some (.ref l0), some (.ref l1), some (.int l2), some (.int (l3 + (nI 1))), none, none, none, none, none, none, none, none]) (st' := []) bf270_167 bf270_90 rfl rfl).trans ?_
  rfl
theorem bk270_162 {w : am_Wd}  : am_run 270 162 [none, none, none, none, none, none, none, none, none, none, none, none] [] w = some (.inl (some (.int (nI 0))), w) := by
  refine (bu (ls'' := [none, none, none, none, none, none, none, none, none, none, none, none]) (st' := [.int (nI 0)]) bf270_162 bf270_163 rfl rfl).trans ?_
  exact am_e2 bf270_163 rfl (am_ge_rf w)
theorem bk270_287 {w : am_Wd} {l0 : Nat} {l1 : Nat} {l2 : Int32} {l3 : Int32} {l4 : Int32} {l5 : Int32} {l6 : Int32} {l7 : Nat} {l8 : Int32} {l9 : Int32} {s0 : Int32} : am_run 270 287 [some (.ref l0), some (.ref l1), some (.int l2), some (.int l3), some (.int l4), some (.int l5), some (.int l6), some (.ref l7), some (.int l8), some (.int l9), none, none] [.int s0] w = (am_x 266 [.int l4, .int (nI 8)] w).bind fun r => bct r fun v w' => am_run 270 299 [some (.ref l0), some (.ref l1), some (.int l2), some (.int l3), some (.int l4), some (.int l5), some (.int l6), some (.ref l7), some (.int l8), some (.int l9), some (.int s0), none] (v.toList ++ [.int l6, .ref l1]) w' := by
  refine (bu (ls'' := [some (.ref l0), some (.ref l1), some (.int l2), some (.int l3), some (.int l4), some (.int l5), some (.int l6), some (.ref l7), some (.int l8), some (.int l9), some (.int s0), none]) (st' := []) bf270_287 bf270_289 rfl rfl).trans ?_
  refine (bu (ls'' := [some (.ref l0), some (.ref l1), some (.int l2), some (.int l3), some (.int l4), some (.int l5), some (.int l6), some (.ref l7), some (.int l8), some (.int l9), some (.int s0), none]) (st' := [.ref l1]) bf270_289 bf270_290 rfl rfl).trans ?_
  refine (bu (ls'' := [some (.ref l0), some (.ref l1), some (.int l2), some (.int l3), some (.int l4), some (.int l5), some (.int l6), some (.ref l7), some (.int l8), some (.int l9), some (.int s0), none]) (st' := [.int l6, .ref l1]) bf270_290 bf270_292 rfl rfl).trans ?_
  refine (bu (ls'' := [some (.ref l0), some (.ref l1), some (.int l2), some (.int l3), some (.int l4), some (.int l5), some (.int l6), some (.ref l7), some (.int l8), some (.int l9), some (.int s0), none]) (st' := [.int l4, .int l6, .ref l1]) bf270_292 bf270_294 rfl rfl).trans ?_
  refine (bu (ls'' := [some (.ref l0), some (.ref l1), some (.int l2), some (.int l3), some (.int l4), some (.int l5), some (.int l6), some (.ref l7), some (.int l8), some (.int l9), some (.int s0), none]) (st' := [.int (nI 8), .int l4, .int l6, .ref l1]) bf270_294 bf270_296 rfl rfl).trans ?_
  exact bkS bf270_296 bf270_299 rfl (by decide +kernel) (Nat.le_of_ble_eq_true rfl) rfl (bhd rfl)
theorem bk270_299 {w : am_Wd} {l0 : Nat} {l1 : Nat} {l2 : Int32} {l3 : Int32} {l4 : Int32} {l5 : Int32} {l6 : Int32} {l7 : Nat} {l8 : Int32} {l9 : Int32} {l10 : Int32} {s0 : Int32} {s1 : Int32} {s2 : Nat} : am_run 270 299 [some (.ref l0), some (.ref l1), some (.int l2), some (.int l3), some (.int l4), some (.int l5), some (.int l6), some (.ref l7), some (.int l8), some (.int l9), some (.int l10), none] [.int s0, .int s1, .ref s2] w = (am_x 268 [.ref s2, .int s1, .int s0, .int (l4 / (nI 8)), .int l5] w).bind fun r => bct r fun v w' => am_run 270 309 [some (.ref l0), some (.ref l1), some (.int l2), some (.int l3), none, none, some (.int l6), some (.ref l7), some (.int l8), some (.int l9), some (.int l10), none] (v.toList ++ []) w' := by
  refine (bu (ls'' := [some (.ref l0), some (.ref l1), some (.int l2), some (.int l3), none, some (.int l5), some (.int l6), some (.ref l7), some (.int l8), some (.int l9), some (.int l10), none]) (st' := [.int l4, .int s0, .int s1, .ref s2]) bf270_299 bf270_301 rfl rfl).trans ?_
  refine (bu (ls'' := [some (.ref l0), some (.ref l1), some (.int l2), some (.int l3), none, some (.int l5), some (.int l6), some (.ref l7), some (.int l8), some (.int l9), some (.int l10), none]) (st' := [.int (nI 8), .int l4, .int s0, .int s1, .ref s2]) bf270_301 bf270_303 rfl rfl).trans ?_
  refine (bu (ls'' := [some (.ref l0), some (.ref l1), some (.int l2), some (.int l3), none, some (.int l5), some (.int l6), some (.ref l7), some (.int l8), some (.int l9), some (.int l10), none]) (st' := [.int (l4 / (nI 8)), .int s0, .int s1, .ref s2]) bf270_303 bf270_304 rfl rfl).trans ?_
  refine (bu (ls'' := [some (.ref l0), some (.ref l1), some (.int l2), some (.int l3), none, none, some (.int l6), some (.ref l7), some (.int l8), some (.int l9), some (.int l10), none]) (st' := [.int l5, .int (l4 / (nI 8)), .int s0, .int s1, .ref s2]) bf270_304 bf270_306 rfl rfl).trans ?_
  exact bkS bf270_306 bf270_309 rfl (by decide +kernel) (Nat.le_of_ble_eq_true rfl) rfl (bhd rfl)
theorem bk270_309 {w : am_Wd} {l0 : Nat} {l1 : Nat} {l2 : Int32} {l3 : Int32} {l6 : Int32} {l7 : Nat} {l8 : Int32} {l9 : Int32} {l10 : Int32} {s0 : Int32} : am_run 270 309 [some (.ref l0), some (.ref l1), some (.int l2), some (.int l3), none, none, some (.int l6), some (.ref l7), some (.int l8), some (.int l9), some (.int l10), none] [.int s0] w = if s0 = nI 0 then am_run 270 316 [some (.ref l0), some (.ref l1), some (.int l2), some (.int l3), none, none, some (.int l6), some (.ref l7), some (.int l8), some (.int l9), some (.int l10), none] [] w else am_run 270 312 [some (.ref l0), some (.ref l1), some (.int l2), some (.int l3), none, none, some (.int l6), some (.ref l7), some (.int l8), some (.int l9), some (.int l10), none] [] w := by
  exact bifc bf270_309 rfl bf270_316 bf270_312 rfl rfl rfl
theorem bk270_316 {w : am_Wd} {l0 : Nat} {l1 : Nat} {l2 : Int32} {l3 : Int32} {l6 : Int32} {l7 : Nat} {l8 : Int32} {l9 : Int32} {l10 : Int32} : am_run 270 316 [some (.ref l0), some (.ref l1), some (.int l2), some (.int l3), none, none, some (.int l6), some (.ref l7), some (.int l8), some (.int l9), some (.int l10), none] [] w = am_run 270 317 [some (.ref l0), some (.ref l1), some (.int l2), some (.int l3), none, none, some (.int l6), some (.ref l7), some (.int l8), some (.int l9), some (.int l10), none] [.int (nI 0)] w := by
  refine (bu (ls'' := [some (.ref l0), some (.ref l1), some (.int l2), some (.int l3), none, none, some (.int l6), some (.ref l7), some (.int l8), some (.int l9), some (.int l10), none]) (st' := [.int (nI 0)]) bf270_316 bf270_317 rfl rfl).trans ?_
  rfl
theorem bk270_312 {w : am_Wd} {l0 : Nat} {l1 : Nat} {l2 : Int32} {l3 : Int32} {l6 : Int32} {l7 : Nat} {l8 : Int32} {l9 : Int32} {l10 : Int32} : am_run 270 312 [some (.ref l0), some (.ref l1), some (.int l2), some (.int l3), none, none, some (.int l6), some (.ref l7), some (.int l8), some (.int l9), some (.int l10), none] [] w = am_run 270 317 [some (.ref l0), some (.ref l1), some (.int l2), some (.int l3), none, none, some (.int l6), some (.ref l7), some (.int l8), some (.int l9), some (.int l10), none] [.int (nI 1)] w := by
  refine (bu (ls'' := [some (.ref l0), some (.ref l1), some (.int l2), some (.int l3), none, none, some (.int l6), some (.ref l7), some (.int l8), some (.int l9), some (.int l10), none]) (st' := [.int (nI 1)]) bf270_312 bf270_313 rfl rfl).trans ?_
  refine (bu (ls'' := [some (.ref l0), some (.ref l1), some (.int l2), some (.int l3), none, none, some (.int l6), some (.ref l7), some (.int l8), some (.int l9), some (.int l10), none]) (st' := [.int (nI 1)]) bf270_313 bf270_317 rfl rfl).trans ?_
  rfl
theorem bk270_317 {w : am_Wd} {l0 : Nat} {l1 : Nat} {l2 : Int32} {l3 : Int32} {l6 : Int32} {l7 : Nat} {l8 : Int32} {l9 : Int32} {l10 : Int32} {s0 : Int32} : am_run 270 317 [some (.ref l0), some (.ref l1), some (.int l2), some (.int l3), none, none, some (.int l6), some (.ref l7), some (.int l8), some (.int l9), some (.int l10), none] [.int s0] w = (am_kf w l1 8).bind fun _ => (am_x 136 [.ref l1, .int (nI 8)] w).bind fun r => bct r fun v w' => am_run 270 325 [some (.ref l0), some (.ref l1), some (.int l2), some (.int l3), none, none, some (.int l6), some (.ref l7), some (.int l8), some (.int l9), some (.int l10), some (.int s0)] (v.toList ++ []) w' := by
  refine (bu (ls'' := [some (.ref l0), some (.ref l1), some (.int l2), some (.int l3), none, none, some (.int l6), some (.ref l7), some (.int l8), some (.int l9), some (.int l10), some (.int s0)]) (st' := []) bf270_317 bf270_319 rfl rfl).trans ?_
  refine (bu (ls'' := [some (.ref l0), some (.ref l1), some (.int l2), some (.int l3), none, none, some (.int l6), some (.ref l7), some (.int l8), some (.int l9), some (.int l10), some (.int s0)]) (st' := [.ref l1]) bf270_319 bf270_320 rfl rfl).trans ?_
  refine (bu (ls'' := [some (.ref l0), some (.ref l1), some (.int l2), some (.int l3), none, none, some (.int l6), some (.ref l7), some (.int l8), some (.int l9), some (.int l10), some (.int s0)]) (st' := [.int (nI 8), .ref l1]) bf270_320 bf270_322 rfl rfl).trans ?_
  exact bkV bf270_322 bf270_325 rfl (by decide +kernel) (Nat.le_of_ble_eq_true rfl) rfl (bhd rfl)
theorem bk270_325 {w : am_Wd} {l0 : Nat} {l1 : Nat} {l2 : Int32} {l3 : Int32} {l6 : Int32} {l7 : Nat} {l8 : Int32} {l9 : Int32} {l10 : Int32} {l11 : Int32} {s0 : Int32} : am_run 270 325 [some (.ref l0), some (.ref l1), some (.int l2), some (.int l3), none, none, some (.int l6), some (.ref l7), some (.int l8), some (.int l9), some (.int l10), some (.int l11)] [.int s0] w = if s0 < l9 then am_run 270 384 [none, none, none, none, none, none, none, none, none, none, none, none] [] w else am_run 270 330 [some (.ref l0), some (.ref l1), some (.int l2), some (.int l3), none, none, some (.int l6), some (.ref l7), some (.int l8), none, some (.int l10), some (.int l11)] [] w := by
  refine (bu (ls'' := [some (.ref l0), some (.ref l1), some (.int l2), some (.int l3), none, none, some (.int l6), some (.ref l7), some (.int l8), none, some (.int l10), some (.int l11)]) (st' := [.int l9, .int s0]) bf270_325 bf270_327 rfl rfl).trans ?_
  exact bic bf270_327 rfl bf270_384 bf270_330 rfl rfl rfl
theorem bk270_384 {w : am_Wd}  : am_run 270 384 [none, none, none, none, none, none, none, none, none, none, none, none] [] w = some (.inl (some (.int (nI 0))), w) := by
  refine (bu (ls'' := [none, none, none, none, none, none, none, none, none, none, none, none]) (st' := [.int (nI 0)]) bf270_384 bf270_385 rfl rfl).trans ?_
  exact am_e2 bf270_385 rfl (am_ge_rf w)
theorem bk270_330 {w : am_Wd} {l0 : Nat} {l1 : Nat} {l2 : Int32} {l3 : Int32} {l6 : Int32} {l7 : Nat} {l8 : Int32} {l10 : Int32} {l11 : Int32} : am_run 270 330 [some (.ref l0), some (.ref l1), some (.int l2), some (.int l3), none, none, some (.int l6), some (.ref l7), some (.int l8), none, some (.int l10), some (.int l11)] [] w = (am_kf w l1 8).bind fun _ => (am_x 201 [.ref l1, .int l6, .int (nI 10)] w).bind fun r => bct r fun v w' => am_run 270 338 [some (.ref l0), some (.ref l1), some (.int l2), some (.int l3), none, none, some (.int l6), some (.ref l7), some (.int l8), none, some (.int l10), some (.int l11)] (v.toList ++ []) w' := by
  refine (bu (ls'' := [some (.ref l0), some (.ref l1), some (.int l2), some (.int l3), none, none, some (.int l6), some (.ref l7), some (.int l8), none, some (.int l10), some (.int l11)]) (st' := [.ref l1]) bf270_330 bf270_331 rfl rfl).trans ?_
  refine (bu (ls'' := [some (.ref l0), some (.ref l1), some (.int l2), some (.int l3), none, none, some (.int l6), some (.ref l7), some (.int l8), none, some (.int l10), some (.int l11)]) (st' := [.int l6, .ref l1]) bf270_331 bf270_333 rfl rfl).trans ?_
  refine (bu (ls'' := [some (.ref l0), some (.ref l1), some (.int l2), some (.int l3), none, none, some (.int l6), some (.ref l7), some (.int l8), none, some (.int l10), some (.int l11)]) (st' := [.int (nI 10), .int l6, .ref l1]) bf270_333 bf270_335 rfl rfl).trans ?_
  exact bkV bf270_335 bf270_338 rfl (by decide +kernel) (Nat.le_of_ble_eq_true rfl) rfl (bhd rfl)
theorem bk270_338 {w : am_Wd} {l0 : Nat} {l1 : Nat} {l2 : Int32} {l3 : Int32} {l6 : Int32} {l7 : Nat} {l8 : Int32} {l10 : Int32} {l11 : Int32} {s0 : Int32} : am_run 270 338 [some (.ref l0), some (.ref l1), some (.int l2), some (.int l3), none, none, some (.int l6), some (.ref l7), some (.int l8), none, some (.int l10), some (.int l11)] [.int s0] w = (am_ri 0 w l7 (nI 10)).bind fun v => am_run 270 343 [some (.ref l0), some (.ref l1), some (.int l2), some (.int l3), none, none, some (.int l6), some (.ref l7), some (.int l8), none, some (.int l10), some (.int l11)] (.int v :: [.int s0]) w := by
  refine (bu (ls'' := [some (.ref l0), some (.ref l1), some (.int l2), some (.int l3), none, none, some (.int l6), some (.ref l7), some (.int l8), none, some (.int l10), some (.int l11)]) (st' := [.ref l7, .int s0]) bf270_338 bf270_340 rfl rfl).trans ?_
  refine (bu (ls'' := [some (.ref l0), some (.ref l1), some (.int l2), some (.int l3), none, none, some (.int l6), some (.ref l7), some (.int l8), none, some (.int l10), some (.int l11)]) (st' := [.int (nI 10), .ref l7, .int s0]) bf270_340 bf270_342 rfl rfl).trans ?_
  exact bh bf270_342 bf270_343 rfl (fun _ _ => am_ge_rf w) rfl
theorem bk270_343 {w : am_Wd} {l0 : Nat} {l1 : Nat} {l2 : Int32} {l3 : Int32} {l6 : Int32} {l7 : Nat} {l8 : Int32} {l10 : Int32} {l11 : Int32} {s0 : Int32} {s1 : Int32} : am_run 270 343 [some (.ref l0), some (.ref l1), some (.int l2), some (.int l3), none, none, some (.int l6), some (.ref l7), some (.int l8), none, some (.int l10), some (.int l11)] [.int s0, .int s1] w = if ¬ s1 = (s0 + l11) then am_run 270 384 [none, none, none, none, none, none, none, none, none, none, none, none] [] w else am_run 270 349 [some (.ref l0), some (.ref l1), some (.int l2), some (.int l3), none, none, some (.int l6), some (.ref l7), some (.int l8), none, some (.int l10), some (.int l11)] [] w := by
  refine (bu (ls'' := [some (.ref l0), some (.ref l1), some (.int l2), some (.int l3), none, none, some (.int l6), some (.ref l7), some (.int l8), none, some (.int l10), some (.int l11)]) (st' := [.int l11, .int s0, .int s1]) bf270_343 bf270_345 rfl rfl).trans ?_
  refine (bu (ls'' := [some (.ref l0), some (.ref l1), some (.int l2), some (.int l3), none, none, some (.int l6), some (.ref l7), some (.int l8), none, some (.int l10), some (.int l11)]) (st' := [.int (s0 + l11), .int s1]) bf270_345 bf270_346 rfl rfl).trans ?_
  exact bic bf270_346 rfl bf270_384 bf270_349 rfl rfl rfl
theorem bk270_349 {w : am_Wd} {l0 : Nat} {l1 : Nat} {l2 : Int32} {l3 : Int32} {l6 : Int32} {l7 : Nat} {l8 : Int32} {l10 : Int32} {l11 : Int32} : am_run 270 349 [some (.ref l0), some (.ref l1), some (.int l2), some (.int l3), none, none, some (.int l6), some (.ref l7), some (.int l8), none, some (.int l10), some (.int l11)] [] w = (am_kf w l1 8).bind fun _ => (am_x 201 [.ref l1, .int l6, .int (nI 2)] w).bind fun r => bct r fun v w' => am_run 270 356 [some (.ref l0), some (.ref l1), some (.int l2), some (.int l3), none, none, some (.int l6), some (.ref l7), some (.int l8), none, some (.int l10), some (.int l11)] (v.toList ++ []) w' := by
  refine (bu (ls'' := [some (.ref l0), some (.ref l1), some (.int l2), some (.int l3), none, none, some (.int l6), some (.ref l7), some (.int l8), none, some (.int l10), some (.int l11)]) (st' := [.ref l1]) bf270_349 bf270_350 rfl rfl).trans ?_
  refine (bu (ls'' := [some (.ref l0), some (.ref l1), some (.int l2), some (.int l3), none, none, some (.int l6), some (.ref l7), some (.int l8), none, some (.int l10), some (.int l11)]) (st' := [.int l6, .ref l1]) bf270_350 bf270_352 rfl rfl).trans ?_
  refine (bu (ls'' := [some (.ref l0), some (.ref l1), some (.int l2), some (.int l3), none, none, some (.int l6), some (.ref l7), some (.int l8), none, some (.int l10), some (.int l11)]) (st' := [.int (nI 2), .int l6, .ref l1]) bf270_352 bf270_353 rfl rfl).trans ?_
  exact bkV bf270_353 bf270_356 rfl (by decide +kernel) (Nat.le_of_ble_eq_true rfl) rfl (bhd rfl)
theorem bk270_356 {w : am_Wd} {l0 : Nat} {l1 : Nat} {l2 : Int32} {l3 : Int32} {l6 : Int32} {l7 : Nat} {l8 : Int32} {l10 : Int32} {l11 : Int32} {s0 : Int32} : am_run 270 356 [some (.ref l0), some (.ref l1), some (.int l2), some (.int l3), none, none, some (.int l6), some (.ref l7), some (.int l8), none, some (.int l10), some (.int l11)] [.int s0] w = (am_ri 0 w l7 (nI 2)).bind fun v => am_run 270 360 [some (.ref l0), some (.ref l1), some (.int l2), some (.int l3), none, none, some (.int l6), some (.ref l7), some (.int l8), none, some (.int l10), some (.int l11)] (.int v :: [.int s0]) w := by
  refine (bu (ls'' := [some (.ref l0), some (.ref l1), some (.int l2), some (.int l3), none, none, some (.int l6), some (.ref l7), some (.int l8), none, some (.int l10), some (.int l11)]) (st' := [.ref l7, .int s0]) bf270_356 bf270_358 rfl rfl).trans ?_
  refine (bu (ls'' := [some (.ref l0), some (.ref l1), some (.int l2), some (.int l3), none, none, some (.int l6), some (.ref l7), some (.int l8), none, some (.int l10), some (.int l11)]) (st' := [.int (nI 2), .ref l7, .int s0]) bf270_358 bf270_359 rfl rfl).trans ?_
  exact bh bf270_359 bf270_360 rfl (fun _ _ => am_ge_rf w) rfl
theorem bk270_360 {w : am_Wd} {l0 : Nat} {l1 : Nat} {l2 : Int32} {l3 : Int32} {l6 : Int32} {l7 : Nat} {l8 : Int32} {l10 : Int32} {l11 : Int32} {s0 : Int32} {s1 : Int32} : am_run 270 360 [some (.ref l0), some (.ref l1), some (.int l2), some (.int l3), none, none, some (.int l6), some (.ref l7), some (.int l8), none, some (.int l10), some (.int l11)] [.int s0, .int s1] w = if ¬ s1 = (s0 - l11) then am_run 270 384 [none, none, none, none, none, none, none, none, none, none, none, none] [] w else am_run 270 366 [some (.ref l0), some (.ref l1), some (.int l2), some (.int l3), none, none, some (.int l6), some (.ref l7), some (.int l8), none, some (.int l10), some (.int l11)] [] w := by
  refine (bu (ls'' := [some (.ref l0), some (.ref l1), some (.int l2), some (.int l3), none, none, some (.int l6), some (.ref l7), some (.int l8), none, some (.int l10), some (.int l11)]) (st' := [.int l11, .int s0, .int s1]) bf270_360 bf270_362 rfl rfl).trans ?_
  refine (bu (ls'' := [some (.ref l0), some (.ref l1), some (.int l2), some (.int l3), none, none, some (.int l6), some (.ref l7), some (.int l8), none, some (.int l10), some (.int l11)]) (st' := [.int (s0 - l11), .int s1]) bf270_362 bf270_363 rfl rfl).trans ?_
  exact bic bf270_363 rfl bf270_384 bf270_366 rfl rfl rfl
theorem bk270_366 {w : am_Wd} {l0 : Nat} {l1 : Nat} {l2 : Int32} {l3 : Int32} {l6 : Int32} {l7 : Nat} {l8 : Int32} {l10 : Int32} {l11 : Int32} : am_run 270 366 [some (.ref l0), some (.ref l1), some (.int l2), some (.int l3), none, none, some (.int l6), some (.ref l7), some (.int l8), none, some (.int l10), some (.int l11)] [] w = if ¬ l10 = nI 0 then am_run 270 386 [some (.ref l0), some (.ref l1), some (.int l2), some (.int l3), none, none, some (.int l6), some (.ref l7), none, none, none, none] [] w else am_run 270 371 [some (.ref l0), some (.ref l1), some (.int l2), some (.int l3), none, none, some (.int l6), some (.ref l7), some (.int l8), none, none, some (.int l11)] [] w := by
  refine (bu (ls'' := [some (.ref l0), some (.ref l1), some (.int l2), some (.int l3), none, none, some (.int l6), some (.ref l7), some (.int l8), none, none, some (.int l11)]) (st' := [.int l10]) bf270_366 bf270_368 rfl rfl).trans ?_
  exact bifc bf270_368 rfl bf270_386 bf270_371 rfl rfl rfl
theorem bk270_386 {w : am_Wd} {l0 : Nat} {l1 : Nat} {l2 : Int32} {l3 : Int32} {l6 : Int32} {l7 : Nat} : am_run 270 386 [some (.ref l0), some (.ref l1), some (.int l2), some (.int l3), none, none, some (.int l6), some (.ref l7), none, none, none, none] [] w = (am_kf w l1 8).bind fun _ => (am_x 201 [.ref l1, .int l6, .int (nI 5)] w).bind fun r => bct r fun v w' => am_run 270 393 [some (.ref l0), some (.ref l1), some (.int l2), some (.int l3), none, none, some (.int l6), some (.ref l7), none, none, none, none] (v.toList ++ []) w' := by
  refine (bu (ls'' := [some (.ref l0), some (.ref l1), some (.int l2), some (.int l3), none, none, some (.int l6), some (.ref l7), none, none, none, none]) (st' := [.ref l1]) bf270_386 bf270_387 rfl rfl).trans ?_
  refine (bu (ls'' := [some (.ref l0), some (.ref l1), some (.int l2), some (.int l3), none, none, some (.int l6), some (.ref l7), none, none, none, none]) (st' := [.int l6, .ref l1]) bf270_387 bf270_389 rfl rfl).trans ?_
  refine (bu (ls'' := [some (.ref l0), some (.ref l1), some (.int l2), some (.int l3), none, none, some (.int l6), some (.ref l7), none, none, none, none]) (st' := [.int (nI 5), .int l6, .ref l1]) bf270_389 bf270_390 rfl rfl).trans ?_
  exact bkV bf270_390 bf270_393 rfl (by decide +kernel) (Nat.le_of_ble_eq_true rfl) rfl (bhd rfl)
theorem bk270_371 {w : am_Wd} {l0 : Nat} {l1 : Nat} {l2 : Int32} {l3 : Int32} {l6 : Int32} {l7 : Nat} {l8 : Int32} {l11 : Int32} : am_run 270 371 [some (.ref l0), some (.ref l1), some (.int l2), some (.int l3), none, none, some (.int l6), some (.ref l7), some (.int l8), none, none, some (.int l11)] [] w = (am_kf w l1 8).bind fun _ => (am_x 136 [.ref l1, .int (nI 0)] w).bind fun r => bct r fun v w' => am_run 270 376 [some (.ref l0), some (.ref l1), some (.int l2), some (.int l3), none, none, some (.int l6), some (.ref l7), some (.int l8), none, none, some (.int l11)] (v.toList ++ []) w' := by
  refine (bu (ls'' := [some (.ref l0), some (.ref l1), some (.int l2), some (.int l3), none, none, some (.int l6), some (.ref l7), some (.int l8), none, none, some (.int l11)]) (st' := [.ref l1]) bf270_371 bf270_372 rfl rfl).trans ?_
  refine (bu (ls'' := [some (.ref l0), some (.ref l1), some (.int l2), some (.int l3), none, none, some (.int l6), some (.ref l7), some (.int l8), none, none, some (.int l11)]) (st' := [.int (nI 0), .ref l1]) bf270_372 bf270_373 rfl rfl).trans ?_
  exact bkV bf270_373 bf270_376 rfl (by decide +kernel) (Nat.le_of_ble_eq_true rfl) rfl (bhd rfl)
theorem bk270_393 {w : am_Wd} {l0 : Nat} {l1 : Nat} {l2 : Int32} {l3 : Int32} {l6 : Int32} {l7 : Nat} {s0 : Int32} : am_run 270 393 [some (.ref l0), some (.ref l1), some (.int l2), some (.int l3), none, none, some (.int l6), some (.ref l7), none, none, none, none] [.int s0] w = (am_kf w l1 8).bind fun _ => (am_x 201 [.ref l1, .int l6, .int (nI 6)] w).bind fun r => bct r fun v w' => am_run 270 401 [some (.ref l0), some (.ref l1), some (.int l2), some (.int l3), none, none, some (.int l6), some (.ref l7), none, none, none, none] (v.toList ++ [.int s0]) w' := by
  refine (bu (ls'' := [some (.ref l0), some (.ref l1), some (.int l2), some (.int l3), none, none, some (.int l6), some (.ref l7), none, none, none, none]) (st' := [.ref l1, .int s0]) bf270_393 bf270_394 rfl rfl).trans ?_
  refine (bu (ls'' := [some (.ref l0), some (.ref l1), some (.int l2), some (.int l3), none, none, some (.int l6), some (.ref l7), none, none, none, none]) (st' := [.int l6, .ref l1, .int s0]) bf270_394 bf270_396 rfl rfl).trans ?_
  refine (bu (ls'' := [some (.ref l0), some (.ref l1), some (.int l2), some (.int l3), none, none, some (.int l6), some (.ref l7), none, none, none, none]) (st' := [.int (nI 6), .int l6, .ref l1, .int s0]) bf270_396 bf270_398 rfl rfl).trans ?_
  exact bkV bf270_398 bf270_401 rfl (by decide +kernel) (Nat.le_of_ble_eq_true rfl) rfl (bhd rfl)
theorem bk270_376 {w : am_Wd} {l0 : Nat} {l1 : Nat} {l2 : Int32} {l3 : Int32} {l6 : Int32} {l7 : Nat} {l8 : Int32} {l11 : Int32} {s0 : Int32} : am_run 270 376 [some (.ref l0), some (.ref l1), some (.int l2), some (.int l3), none, none, some (.int l6), some (.ref l7), some (.int l8), none, none, some (.int l11)] [.int s0] w = if s0 = (l8 + l11) then am_run 270 386 [some (.ref l0), some (.ref l1), some (.int l2), some (.int l3), none, none, some (.int l6), some (.ref l7), none, none, none, none] [] w else am_run 270 384 [none, none, none, none, none, none, none, none, none, none, none, none] [] w := by
  refine (bu (ls'' := [some (.ref l0), some (.ref l1), some (.int l2), some (.int l3), none, none, some (.int l6), some (.ref l7), none, none, none, some (.int l11)]) (st' := [.int l8, .int s0]) bf270_376 bf270_378 rfl rfl).trans ?_
  refine (bu (ls'' := [some (.ref l0), some (.ref l1), some (.int l2), some (.int l3), none, none, some (.int l6), some (.ref l7), none, none, none, none]) (st' := [.int l11, .int l8, .int s0]) bf270_378 bf270_380 rfl rfl).trans ?_
  refine (bu (ls'' := [some (.ref l0), some (.ref l1), some (.int l2), some (.int l3), none, none, some (.int l6), some (.ref l7), none, none, none, none]) (st' := [.int (l8 + l11), .int s0]) bf270_380 bf270_381 rfl rfl).trans ?_
  exact bic bf270_381 rfl bf270_386 bf270_384 rfl rfl rfl
theorem bk270_401 {w : am_Wd} {l0 : Nat} {l1 : Nat} {l2 : Int32} {l3 : Int32} {l6 : Int32} {l7 : Nat} {s0 : Int32} {s1 : Int32} : am_run 270 401 [some (.ref l0), some (.ref l1), some (.int l2), some (.int l3), none, none, some (.int l6), some (.ref l7), none, none, none, none] [.int s0, .int s1] w = (am_ri 0 w l7 (nI 5)).bind fun v => am_run 270 406 [some (.ref l0), some (.ref l1), some (.int l2), some (.int l3), none, none, some (.int l6), some (.ref l7), none, none, none, none] (.int v :: [.int (s1 + s0)]) w := by
  refine (bu (ls'' := [some (.ref l0), some (.ref l1), some (.int l2), some (.int l3), none, none, some (.int l6), some (.ref l7), none, none, none, none]) (st' := [.int (s1 + s0)]) bf270_401 bf270_402 rfl rfl).trans ?_
  refine (bu (ls'' := [some (.ref l0), some (.ref l1), some (.int l2), some (.int l3), none, none, some (.int l6), some (.ref l7), none, none, none, none]) (st' := [.ref l7, .int (s1 + s0)]) bf270_402 bf270_404 rfl rfl).trans ?_
  refine (bu (ls'' := [some (.ref l0), some (.ref l1), some (.int l2), some (.int l3), none, none, some (.int l6), some (.ref l7), none, none, none, none]) (st' := [.int (nI 5), .ref l7, .int (s1 + s0)]) bf270_404 bf270_405 rfl rfl).trans ?_
  exact bh bf270_405 bf270_406 rfl (fun _ _ => am_ge_rf w) rfl
theorem bk270_406 {w : am_Wd} {l0 : Nat} {l1 : Nat} {l2 : Int32} {l3 : Int32} {l6 : Int32} {l7 : Nat} {s0 : Int32} {s1 : Int32} : am_run 270 406 [some (.ref l0), some (.ref l1), some (.int l2), some (.int l3), none, none, some (.int l6), some (.ref l7), none, none, none, none] [.int s0, .int s1] w = (am_ri 0 w l7 (nI 6)).bind fun v => am_run 270 411 [some (.ref l0), some (.ref l1), some (.int l2), some (.int l3), none, none, some (.int l6), none, none, none, none, none] (.int v :: [.int s0, .int s1]) w := by
  refine (bu (ls'' := [some (.ref l0), some (.ref l1), some (.int l2), some (.int l3), none, none, some (.int l6), none, none, none, none, none]) (st' := [.ref l7, .int s0, .int s1]) bf270_406 bf270_408 rfl rfl).trans ?_
  refine (bu (ls'' := [some (.ref l0), some (.ref l1), some (.int l2), some (.int l3), none, none, some (.int l6), none, none, none, none, none]) (st' := [.int (nI 6), .ref l7, .int s0, .int s1]) bf270_408 bf270_410 rfl rfl).trans ?_
  exact bh bf270_410 bf270_411 rfl (fun _ _ => am_ge_rf w) rfl
theorem bk270_411 {w : am_Wd} {l0 : Nat} {l1 : Nat} {l2 : Int32} {l3 : Int32} {l6 : Int32} {s0 : Int32} {s1 : Int32} {s2 : Int32} : am_run 270 411 [some (.ref l0), some (.ref l1), some (.int l2), some (.int l3), none, none, some (.int l6), none, none, none, none, none] [.int s0, .int s1, .int s2] w = if s2 < (s1 + s0) then am_run 270 424 [none, none, none, none, none, none, none, none, none, none, none, none] [] w else am_run 270 415 [some (.ref l0), some (.ref l1), some (.int l2), some (.int l3), none, none, some (.int l6), none, none, none, none, none] [] w := by
  refine (bu (ls'' := [some (.ref l0), some (.ref l1), some (.int l2), some (.int l3), none, none, some (.int l6), none, none, none, none, none]) (st' := [.int (s1 + s0), .int s2]) bf270_411 bf270_412 rfl rfl).trans ?_
  exact bic bf270_412 rfl bf270_424 bf270_415 rfl rfl rfl
theorem bk270_424 {w : am_Wd}  : am_run 270 424 [none, none, none, none, none, none, none, none, none, none, none, none] [] w = some (.inl (some (.int (nI 0))), w) := by
  refine (bu (ls'' := [none, none, none, none, none, none, none, none, none, none, none, none]) (st' := [.int (nI 0)]) bf270_424 bf270_425 rfl rfl).trans ?_
  exact am_e2 bf270_425 rfl (am_ge_rf w)
theorem bk270_415 {w : am_Wd} {l0 : Nat} {l1 : Nat} {l2 : Int32} {l3 : Int32} {l6 : Int32} : am_run 270 415 [some (.ref l0), some (.ref l1), some (.int l2), some (.int l3), none, none, some (.int l6), none, none, none, none, none] [] w = (am_x 269 [.ref l1, .int l6] w).bind fun r => bct r fun v w' => am_run 270 421 [some (.ref l0), some (.ref l1), some (.int l2), some (.int l3), none, none, none, none, none, none, none, none] (v.toList ++ []) w' := by
  refine (bu (ls'' := [some (.ref l0), some (.ref l1), some (.int l2), some (.int l3), none, none, some (.int l6), none, none, none, none, none]) (st' := [.ref l1]) bf270_415 bf270_416 rfl rfl).trans ?_
  refine (bu (ls'' := [some (.ref l0), some (.ref l1), some (.int l2), some (.int l3), none, none, none, none, none, none, none, none]) (st' := [.int l6, .ref l1]) bf270_416 bf270_418 rfl rfl).trans ?_
  exact bkS bf270_418 bf270_421 rfl (by decide +kernel) (Nat.le_of_ble_eq_true rfl) rfl (bhd rfl)
theorem bk270_421 {w : am_Wd} {l0 : Nat} {l1 : Nat} {l2 : Int32} {l3 : Int32} {s0 : Int32} : am_run 270 421 [some (.ref l0), some (.ref l1), some (.int l2), some (.int l3), none, none, none, none, none, none, none, none] [.int s0] w = if ¬ s0 = nI 0 then am_run 270 426 [some (.ref l0), some (.ref l1), some (.int l2), some (.int l3), none, none, none, none, none, none, none, none] [] w else am_run 270 424 [none, none, none, none, none, none, none, none, none, none, none, none] [] w := by
  exact bifc bf270_421 rfl bf270_426 bf270_424 rfl rfl rfl
theorem bk270_426 {w : am_Wd} {l0 : Nat} {l1 : Nat} {l2 : Int32} {l3 : Int32} : am_run 270 426 [some (.ref l0), some (.ref l1), some (.int l2), some (.int l3), none, none, none, none, none, none, none, none] [] w = am_run 270 172 [some (.ref l0), some (.ref l1), some (.int l2), some (.int (l3 + (nI 1))), none, none, none, none, none, none, none, none] [] w := by
  refine (bu (ls'' := [some (.ref l0), some (.ref l1), some (.int l2), some (.int (l3 + (nI 1))), none, none, none, none, none, none, none, none]) (st' := []) bf270_426 bf270_429 rfl rfl).trans ?_
  refine (bu (ls'' := [some (.ref l0), some (.ref l1), some (.int l2), some (.int (l3 + (nI 1))), none, none, none, none, none, none, none, none]) (st' := []) bf270_429 bf270_172 rfl rfl).trans ?_
  rfl
theorem bx0 {w : am_Wd} {a0 : Nat} : am_x 0 [.ref a0] w = am_run 0 0 [some (.ref a0)] [] w :=
  congrArg (fun l => am_run 0 0 l [] w) (bnr (ls := am_xp [.ref a0] ++ List.replicate (am_ml 0 - (am_xp [.ref a0]).length) none) (ls' := [some (.ref a0)]) bf0_0 rfl)
theorem bx1 {w : am_Wd} {a0 : Nat} : am_x 1 [.ref a0] w = am_run 1 0 [some (.ref a0), none] [] w :=
  congrArg (fun l => am_run 1 0 l [] w) (bnr (ls := am_xp [.ref a0] ++ List.replicate (am_ml 1 - (am_xp [.ref a0]).length) none) (ls' := [some (.ref a0), none]) bf1_0 rfl)
theorem bx2 {w : am_Wd} {a0 : Nat} {a1 : Int32} : am_x 2 [.ref a0, .int a1] w = am_run 2 0 [some (.ref a0), some (.int a1), none] [] w :=
  congrArg (fun l => am_run 2 0 l [] w) (bnr (ls := am_xp [.ref a0, .int a1] ++ List.replicate (am_ml 2 - (am_xp [.ref a0, .int a1]).length) none) (ls' := [some (.ref a0), some (.int a1), none]) bf2_0 rfl)
theorem bx3 {w : am_Wd} {a0 : Nat} : am_x 3 [.ref a0] w = am_run 3 0 [some (.ref a0), none, none, none] [] w :=
  congrArg (fun l => am_run 3 0 l [] w) (bnr (ls := am_xp [.ref a0] ++ List.replicate (am_ml 3 - (am_xp [.ref a0]).length) none) (ls' := [some (.ref a0), none, none, none]) bf3_0 rfl)
theorem bx4 {w : am_Wd} {a0 : Nat} : am_x 4 [.ref a0] w = am_run 4 0 [some (.ref a0), none, none, none] [] w :=
  congrArg (fun l => am_run 4 0 l [] w) (bnr (ls := am_xp [.ref a0] ++ List.replicate (am_ml 4 - (am_xp [.ref a0]).length) none) (ls' := [some (.ref a0), none, none, none]) bf4_0 rfl)
theorem bx5 {w : am_Wd} {a0 : Nat} : am_x 5 [.ref a0] w = am_run 5 0 [some (.ref a0), none, none, none] [] w :=
  congrArg (fun l => am_run 5 0 l [] w) (bnr (ls := am_xp [.ref a0] ++ List.replicate (am_ml 5 - (am_xp [.ref a0]).length) none) (ls' := [some (.ref a0), none, none, none]) bf5_0 rfl)
theorem bx6 {w : am_Wd} {a0 : Nat} : am_x 6 [.ref a0] w = am_run 6 0 [some (.ref a0)] [] w :=
  congrArg (fun l => am_run 6 0 l [] w) (bnr (ls := am_xp [.ref a0] ++ List.replicate (am_ml 6 - (am_xp [.ref a0]).length) none) (ls' := [some (.ref a0)]) bf6_0 rfl)
theorem bx7 {w : am_Wd} {a0 : Int32} : am_x 7 [.int a0] w = am_run 7 0 [some (.int a0)] [] w :=
  congrArg (fun l => am_run 7 0 l [] w) (bnr (ls := am_xp [.int a0] ++ List.replicate (am_ml 7 - (am_xp [.int a0]).length) none) (ls' := [some (.int a0)]) bf7_0 rfl)
theorem bx8 {w : am_Wd} {a0 : Nat} {a1 : Int32} {a2 : Int32} {a3 : Int32} : am_x 8 [.ref a0, .int a1, .int a2, .int a3] w = am_run 8 0 [some (.ref a0), some (.int a1), some (.int a2), some (.int a3), none, none] [] w :=
  congrArg (fun l => am_run 8 0 l [] w) (bnr (ls := am_xp [.ref a0, .int a1, .int a2, .int a3] ++ List.replicate (am_ml 8 - (am_xp [.ref a0, .int a1, .int a2, .int a3]).length) none) (ls' := [some (.ref a0), some (.int a1), some (.int a2), some (.int a3), none, none]) bf8_0 rfl)
theorem bx9 {w : am_Wd} {a0 : Int32} {a1 : Int32} : am_x 9 [.int a0, .int a1] w = am_run 9 0 [some (.int a0), some (.int a1)] [] w :=
  congrArg (fun l => am_run 9 0 l [] w) (bnr (ls := am_xp [.int a0, .int a1] ++ List.replicate (am_ml 9 - (am_xp [.int a0, .int a1]).length) none) (ls' := [some (.int a0), some (.int a1)]) bf9_0 rfl)
theorem bx10 {w : am_Wd} {a0 : Nat} {a1 : Int32} : am_x 10 [.ref a0, .int a1] w = am_run 10 0 [some (.ref a0), some (.int a1), none, none] [] w :=
  congrArg (fun l => am_run 10 0 l [] w) (bnr (ls := am_xp [.ref a0, .int a1] ++ List.replicate (am_ml 10 - (am_xp [.ref a0, .int a1]).length) none) (ls' := [some (.ref a0), some (.int a1), none, none]) bf10_0 rfl)
theorem bx11 {w : am_Wd} {a0 : Int64} {a1 : Int32} : am_x 11 [.long a0, .int a1] w = am_run 11 0 [some (.long a0), none, some (.int a1)] [] w :=
  congrArg (fun l => am_run 11 0 l [] w) (bnr (ls := am_xp [.long a0, .int a1] ++ List.replicate (am_ml 11 - (am_xp [.long a0, .int a1]).length) none) (ls' := [some (.long a0), none, some (.int a1)]) bf11_0 rfl)
theorem bx12 {w : am_Wd}  : am_x 12 [] w = am_run 12 0 [] [] w :=
  congrArg (fun l => am_run 12 0 l [] w) (bnr (ls := am_xp [] ++ List.replicate (am_ml 12 - (am_xp []).length) none) (ls' := []) bf12_0 rfl)
theorem bx13 {w : am_Wd} {a0 : Int32} {a1 : Int32} : am_x 13 [.int a0, .int a1] w = am_run 13 0 [some (.int a0), some (.int a1), none, none] [] w :=
  congrArg (fun l => am_run 13 0 l [] w) (bnr (ls := am_xp [.int a0, .int a1] ++ List.replicate (am_ml 13 - (am_xp [.int a0, .int a1]).length) none) (ls' := [some (.int a0), some (.int a1), none, none]) bf13_0 rfl)
theorem bx14 {w : am_Wd} {a0 : Int64} {a1 : Int32} : am_x 14 [.long a0, .int a1] w = am_run 14 0 [some (.long a0), none, some (.int a1)] [] w :=
  congrArg (fun l => am_run 14 0 l [] w) (bnr (ls := am_xp [.long a0, .int a1] ++ List.replicate (am_ml 14 - (am_xp [.long a0, .int a1]).length) none) (ls' := [some (.long a0), none, some (.int a1)]) bf14_0 rfl)
theorem bx15 {w : am_Wd} {a0 : Int32} {a1 : Int32} : am_x 15 [.int a0, .int a1] w = am_run 15 0 [some (.int a0), some (.int a1)] [] w :=
  congrArg (fun l => am_run 15 0 l [] w) (bnr (ls := am_xp [.int a0, .int a1] ++ List.replicate (am_ml 15 - (am_xp [.int a0, .int a1]).length) none) (ls' := [some (.int a0), some (.int a1)]) bf15_0 rfl)
theorem bx16 {w : am_Wd} {a0 : Int32} {a1 : Int32} : am_x 16 [.int a0, .int a1] w = am_run 16 0 [some (.int a0), some (.int a1), none, none] [] w :=
  congrArg (fun l => am_run 16 0 l [] w) (bnr (ls := am_xp [.int a0, .int a1] ++ List.replicate (am_ml 16 - (am_xp [.int a0, .int a1]).length) none) (ls' := [some (.int a0), some (.int a1), none, none]) bf16_0 rfl)
theorem bx17 {w : am_Wd} {a0 : Nat} : am_x 17 [.ref a0] w = am_run 17 0 [some (.ref a0)] [] w :=
  congrArg (fun l => am_run 17 0 l [] w) (bnr (ls := am_xp [.ref a0] ++ List.replicate (am_ml 17 - (am_xp [.ref a0]).length) none) (ls' := [some (.ref a0)]) bf17_0 rfl)
theorem bx18 {w : am_Wd} {a0 : Nat} : am_x 18 [.ref a0] w = am_run 18 0 [some (.ref a0)] [] w :=
  congrArg (fun l => am_run 18 0 l [] w) (bnr (ls := am_xp [.ref a0] ++ List.replicate (am_ml 18 - (am_xp [.ref a0]).length) none) (ls' := [some (.ref a0)]) bf18_0 rfl)
theorem bx19 {w : am_Wd} {a0 : Int32} : am_x 19 [.int a0] w = am_run 19 0 [some (.int a0)] [] w :=
  congrArg (fun l => am_run 19 0 l [] w) (bnr (ls := am_xp [.int a0] ++ List.replicate (am_ml 19 - (am_xp [.int a0]).length) none) (ls' := [some (.int a0)]) bf19_0 rfl)
theorem bx20 {w : am_Wd} {a0 : Nat} {a1 : Int32} {a2 : Int32} {a3 : Int32} : am_x 20 [.ref a0, .int a1, .int a2, .int a3] w = am_run 20 0 [some (.ref a0), some (.int a1), some (.int a2), some (.int a3), none, none] [] w :=
  congrArg (fun l => am_run 20 0 l [] w) (bnr (ls := am_xp [.ref a0, .int a1, .int a2, .int a3] ++ List.replicate (am_ml 20 - (am_xp [.ref a0, .int a1, .int a2, .int a3]).length) none) (ls' := [some (.ref a0), some (.int a1), some (.int a2), some (.int a3), none, none]) bf20_0 rfl)
theorem bx21 {w : am_Wd} {a0 : Nat} {a1 : Int32} {a2 : Int32} : am_x 21 [.ref a0, .int a1, .int a2] w = am_run 21 0 [some (.ref a0), some (.int a1), some (.int a2)] [] w :=
  congrArg (fun l => am_run 21 0 l [] w) (bnr (ls := am_xp [.ref a0, .int a1, .int a2] ++ List.replicate (am_ml 21 - (am_xp [.ref a0, .int a1, .int a2]).length) none) (ls' := [some (.ref a0), some (.int a1), some (.int a2)]) bf21_0 rfl)
theorem bx22 {w : am_Wd} {a0 : Nat} {a1 : Int32} : am_x 22 [.ref a0, .int a1] w = am_run 22 0 [some (.ref a0), some (.int a1)] [] w :=
  congrArg (fun l => am_run 22 0 l [] w) (bnr (ls := am_xp [.ref a0, .int a1] ++ List.replicate (am_ml 22 - (am_xp [.ref a0, .int a1]).length) none) (ls' := [some (.ref a0), some (.int a1)]) bf22_0 rfl)
theorem bx23 {w : am_Wd} {a0 : Nat} {a1 : Int64} : am_x 23 [.ref a0, .long a1] w = am_run 23 0 [some (.ref a0), some (.long a1), none, none, none, none, none, none, none, none, none] [] w :=
  congrArg (fun l => am_run 23 0 l [] w) (bnr (ls := am_xp [.ref a0, .long a1] ++ List.replicate (am_ml 23 - (am_xp [.ref a0, .long a1]).length) none) (ls' := [some (.ref a0), some (.long a1), none, none, none, none, none, none, none, none, none]) bf23_0 rfl)
theorem bx24 {w : am_Wd} {a0 : Nat} : am_x 24 [.ref a0] w = am_run 24 0 [some (.ref a0)] [] w :=
  congrArg (fun l => am_run 24 0 l [] w) (bnr (ls := am_xp [.ref a0] ++ List.replicate (am_ml 24 - (am_xp [.ref a0]).length) none) (ls' := [some (.ref a0)]) bf24_0 rfl)
theorem bx25 {w : am_Wd} {a0 : Int64} {a1 : Int64} : am_x 25 [.long a0, .long a1] w = am_run 25 0 [some (.long a0), none, some (.long a1), none] [] w :=
  congrArg (fun l => am_run 25 0 l [] w) (bnr (ls := am_xp [.long a0, .long a1] ++ List.replicate (am_ml 25 - (am_xp [.long a0, .long a1]).length) none) (ls' := [some (.long a0), none, some (.long a1), none]) bf25_0 rfl)
theorem bx26 {w : am_Wd} {a0 : Int32} : am_x 26 [.int a0] w = am_run 26 0 [some (.int a0)] [] w :=
  congrArg (fun l => am_run 26 0 l [] w) (bnr (ls := am_xp [.int a0] ++ List.replicate (am_ml 26 - (am_xp [.int a0]).length) none) (ls' := [some (.int a0)]) bf26_0 rfl)
theorem bx27 {w : am_Wd} {a0 : Int32} : am_x 27 [.int a0] w = am_run 27 0 [some (.int a0)] [] w :=
  congrArg (fun l => am_run 27 0 l [] w) (bnr (ls := am_xp [.int a0] ++ List.replicate (am_ml 27 - (am_xp [.int a0]).length) none) (ls' := [some (.int a0)]) bf27_0 rfl)
theorem bx28 {w : am_Wd} {a0 : Int32} : am_x 28 [.int a0] w = am_run 28 0 [some (.int a0)] [] w :=
  congrArg (fun l => am_run 28 0 l [] w) (bnr (ls := am_xp [.int a0] ++ List.replicate (am_ml 28 - (am_xp [.int a0]).length) none) (ls' := [some (.int a0)]) bf28_0 rfl)
theorem bx29 {w : am_Wd} {a0 : Int32} : am_x 29 [.int a0] w = am_run 29 0 [some (.int a0)] [] w :=
  congrArg (fun l => am_run 29 0 l [] w) (bnr (ls := am_xp [.int a0] ++ List.replicate (am_ml 29 - (am_xp [.int a0]).length) none) (ls' := [some (.int a0)]) bf29_0 rfl)
theorem bx30 {w : am_Wd} {a0 : Int32} : am_x 30 [.int a0] w = am_run 30 0 [some (.int a0)] [] w :=
  congrArg (fun l => am_run 30 0 l [] w) (bnr (ls := am_xp [.int a0] ++ List.replicate (am_ml 30 - (am_xp [.int a0]).length) none) (ls' := [some (.int a0)]) bf30_0 rfl)
theorem bx31 {w : am_Wd} {a0 : Nat} {a1 : Int32} : am_x 31 [.ref a0, .int a1] w = am_run 31 0 [some (.ref a0), some (.int a1)] [] w :=
  congrArg (fun l => am_run 31 0 l [] w) (bnr (ls := am_xp [.ref a0, .int a1] ++ List.replicate (am_ml 31 - (am_xp [.ref a0, .int a1]).length) none) (ls' := [some (.ref a0), some (.int a1)]) bf31_0 rfl)
theorem bx32 {w : am_Wd} {a0 : Nat} {a1 : Nat} : am_x 32 [.ref a0, .ref a1] w = am_run 32 0 [some (.ref a0), some (.ref a1)] [] w :=
  congrArg (fun l => am_run 32 0 l [] w) (bnr (ls := am_xp [.ref a0, .ref a1] ++ List.replicate (am_ml 32 - (am_xp [.ref a0, .ref a1]).length) none) (ls' := [some (.ref a0), some (.ref a1)]) bf32_0 rfl)
theorem bx33 {w : am_Wd} {a0 : Nat} : am_x 33 [.ref a0] w = am_run 33 0 [some (.ref a0)] [] w :=
  congrArg (fun l => am_run 33 0 l [] w) (bnr (ls := am_xp [.ref a0] ++ List.replicate (am_ml 33 - (am_xp [.ref a0]).length) none) (ls' := [some (.ref a0)]) bf33_0 rfl)
theorem bx50 {w : am_Wd} {a0 : Int64} : am_x 50 [.long a0] w = am_run 50 0 [some (.long a0), none] [] w :=
  congrArg (fun l => am_run 50 0 l [] w) (bnr (ls := am_xp [.long a0] ++ List.replicate (am_ml 50 - (am_xp [.long a0]).length) none) (ls' := [some (.long a0), none]) bf50_0 rfl)
theorem bx72 {w : am_Wd} {a0 : Nat} : am_x 72 [.ref a0] w = am_run 72 0 [some (.ref a0), none, none] [] w :=
  congrArg (fun l => am_run 72 0 l [] w) (bnr (ls := am_xp [.ref a0] ++ List.replicate (am_ml 72 - (am_xp [.ref a0]).length) none) (ls' := [some (.ref a0), none, none]) bf72_0 rfl)
theorem bx73 {w : am_Wd} {a0 : Nat} {a1 : Int32} : am_x 73 [.ref a0, .int a1] w = am_run 73 0 [some (.ref a0), some (.int a1)] [] w :=
  congrArg (fun l => am_run 73 0 l [] w) (bnr (ls := am_xp [.ref a0, .int a1] ++ List.replicate (am_ml 73 - (am_xp [.ref a0, .int a1]).length) none) (ls' := [some (.ref a0), some (.int a1)]) bf73_0 rfl)
theorem bx74 {w : am_Wd} {a0 : Nat} {a1 : Int32} {a2 : Int32} {a3 : Nat} : am_x 74 [.ref a0, .int a1, .int a2, .ref a3] w = am_run 74 0 [some (.ref a0), some (.int a1), some (.int a2), some (.ref a3), none, none] [] w :=
  congrArg (fun l => am_run 74 0 l [] w) (bnr (ls := am_xp [.ref a0, .int a1, .int a2, .ref a3] ++ List.replicate (am_ml 74 - (am_xp [.ref a0, .int a1, .int a2, .ref a3]).length) none) (ls' := [some (.ref a0), some (.int a1), some (.int a2), some (.ref a3), none, none]) bf74_0 rfl)
theorem bx75 {w : am_Wd} {a0 : Nat} {a1 : Int32} {a2 : Int32} {a3 : Nat} : am_x 75 [.ref a0, .int a1, .int a2, .ref a3] w = am_run 75 0 [some (.ref a0), some (.int a1), some (.int a2), some (.ref a3), none, none, none] [] w :=
  congrArg (fun l => am_run 75 0 l [] w) (bnr (ls := am_xp [.ref a0, .int a1, .int a2, .ref a3] ++ List.replicate (am_ml 75 - (am_xp [.ref a0, .int a1, .int a2, .ref a3]).length) none) (ls' := [some (.ref a0), some (.int a1), some (.int a2), some (.ref a3), none, none, none]) bf75_0 rfl)
theorem bx76 {w : am_Wd} {a0 : Int32} {a1 : Int32} : am_x 76 [.int a0, .int a1] w = am_run 76 0 [some (.int a0), some (.int a1), none, none] [] w :=
  congrArg (fun l => am_run 76 0 l [] w) (bnr (ls := am_xp [.int a0, .int a1] ++ List.replicate (am_ml 76 - (am_xp [.int a0, .int a1]).length) none) (ls' := [some (.int a0), some (.int a1), none, none]) bf76_0 rfl)
theorem bx77 {w : am_Wd} {a0 : Nat} {a1 : Int32} : am_x 77 [.ref a0, .int a1] w = am_run 77 0 [some (.ref a0), some (.int a1), none, none] [] w :=
  congrArg (fun l => am_run 77 0 l [] w) (bnr (ls := am_xp [.ref a0, .int a1] ++ List.replicate (am_ml 77 - (am_xp [.ref a0, .int a1]).length) none) (ls' := [some (.ref a0), some (.int a1), none, none]) bf77_0 rfl)
theorem bx78 {w : am_Wd} {a0 : Nat} : am_x 78 [.ref a0] w = am_run 78 0 [some (.ref a0), none] [] w :=
  congrArg (fun l => am_run 78 0 l [] w) (bnr (ls := am_xp [.ref a0] ++ List.replicate (am_ml 78 - (am_xp [.ref a0]).length) none) (ls' := [some (.ref a0), none]) bf78_0 rfl)
theorem bx79 {w : am_Wd} {a0 : Nat} {a1 : Int32} : am_x 79 [.ref a0, .int a1] w = am_run 79 0 [some (.ref a0), some (.int a1), none] [] w :=
  congrArg (fun l => am_run 79 0 l [] w) (bnr (ls := am_xp [.ref a0, .int a1] ++ List.replicate (am_ml 79 - (am_xp [.ref a0, .int a1]).length) none) (ls' := [some (.ref a0), some (.int a1), none]) bf79_0 rfl)
theorem bx80 {w : am_Wd} {a0 : Nat} : am_x 80 [.ref a0] w = am_run 80 0 [some (.ref a0)] [] w :=
  congrArg (fun l => am_run 80 0 l [] w) (bnr (ls := am_xp [.ref a0] ++ List.replicate (am_ml 80 - (am_xp [.ref a0]).length) none) (ls' := [some (.ref a0)]) bf80_0 rfl)
theorem bx81 {w : am_Wd} {a0 : Nat} {a1 : Int32} {a2 : Int32} : am_x 81 [.ref a0, .int a1, .int a2] w = am_run 81 0 [some (.ref a0), some (.int a1), some (.int a2)] [] w :=
  congrArg (fun l => am_run 81 0 l [] w) (bnr (ls := am_xp [.ref a0, .int a1, .int a2] ++ List.replicate (am_ml 81 - (am_xp [.ref a0, .int a1, .int a2]).length) none) (ls' := [some (.ref a0), some (.int a1), some (.int a2)]) bf81_0 rfl)
theorem bx82 {w : am_Wd} {a0 : Nat} {a1 : Int32} {a2 : Int32} {a3 : Int32} : am_x 82 [.ref a0, .int a1, .int a2, .int a3] w = am_run 82 0 [some (.ref a0), some (.int a1), some (.int a2), some (.int a3), none] [] w :=
  congrArg (fun l => am_run 82 0 l [] w) (bnr (ls := am_xp [.ref a0, .int a1, .int a2, .int a3] ++ List.replicate (am_ml 82 - (am_xp [.ref a0, .int a1, .int a2, .int a3]).length) none) (ls' := [some (.ref a0), some (.int a1), some (.int a2), some (.int a3), none]) bf82_0 rfl)
theorem bx83 {w : am_Wd} {a0 : Nat} : am_x 83 [.ref a0] w = am_run 83 0 [some (.ref a0)] [] w :=
  congrArg (fun l => am_run 83 0 l [] w) (bnr (ls := am_xp [.ref a0] ++ List.replicate (am_ml 83 - (am_xp [.ref a0]).length) none) (ls' := [some (.ref a0)]) bf83_0 rfl)
theorem bx84 {w : am_Wd} {a0 : Nat} : am_x 84 [.ref a0] w = am_run 84 0 [some (.ref a0)] [] w :=
  congrArg (fun l => am_run 84 0 l [] w) (bnr (ls := am_xp [.ref a0] ++ List.replicate (am_ml 84 - (am_xp [.ref a0]).length) none) (ls' := [some (.ref a0)]) bf84_0 rfl)
theorem bx87 {w : am_Wd} {a0 : Nat} {a1 : Int32} {a2 : Int32} : am_x 87 [.ref a0, .int a1, .int a2] w = am_run 87 0 [some (.ref a0), some (.int a1), some (.int a2), none, none, none] [] w :=
  congrArg (fun l => am_run 87 0 l [] w) (bnr (ls := am_xp [.ref a0, .int a1, .int a2] ++ List.replicate (am_ml 87 - (am_xp [.ref a0, .int a1, .int a2]).length) none) (ls' := [some (.ref a0), some (.int a1), some (.int a2), none, none, none]) bf87_0 rfl)
theorem bx88 {w : am_Wd} {a0 : Int64} : am_x 88 [.long a0] w = am_run 88 0 [some (.long a0), none, none] [] w :=
  congrArg (fun l => am_run 88 0 l [] w) (bnr (ls := am_xp [.long a0] ++ List.replicate (am_ml 88 - (am_xp [.long a0]).length) none) (ls' := [some (.long a0), none, none]) bf88_0 rfl)
theorem bx89 {w : am_Wd} {a0 : Nat} : am_x 89 [.ref a0] w = am_run 89 0 [some (.ref a0)] [] w :=
  congrArg (fun l => am_run 89 0 l [] w) (bnr (ls := am_xp [.ref a0] ++ List.replicate (am_ml 89 - (am_xp [.ref a0]).length) none) (ls' := [some (.ref a0)]) bf89_0 rfl)
theorem bx90 {w : am_Wd} {a0 : Nat} {a1 : Int32} {a2 : Int32} {a3 : Int32} : am_x 90 [.ref a0, .int a1, .int a2, .int a3] w = am_run 90 0 [some (.ref a0), some (.int a1), some (.int a2), some (.int a3)] [] w :=
  congrArg (fun l => am_run 90 0 l [] w) (bnr (ls := am_xp [.ref a0, .int a1, .int a2, .int a3] ++ List.replicate (am_ml 90 - (am_xp [.ref a0, .int a1, .int a2, .int a3]).length) none) (ls' := [some (.ref a0), some (.int a1), some (.int a2), some (.int a3)]) bf90_0 rfl)
theorem bx91 {w : am_Wd} {a0 : Nat} {a1 : Int32} : am_x 91 [.ref a0, .int a1] w = am_run 91 0 [some (.ref a0), some (.int a1), none] [] w :=
  congrArg (fun l => am_run 91 0 l [] w) (bnr (ls := am_xp [.ref a0, .int a1] ++ List.replicate (am_ml 91 - (am_xp [.ref a0, .int a1]).length) none) (ls' := [some (.ref a0), some (.int a1), none]) bf91_0 rfl)
theorem bx92 {w : am_Wd} {a0 : Int32} {a1 : Int32} {a2 : Int32} : am_x 92 [.int a0, .int a1, .int a2] w = am_run 92 0 [some (.int a0), some (.int a1), some (.int a2)] [] w :=
  congrArg (fun l => am_run 92 0 l [] w) (bnr (ls := am_xp [.int a0, .int a1, .int a2] ++ List.replicate (am_ml 92 - (am_xp [.int a0, .int a1, .int a2]).length) none) (ls' := [some (.int a0), some (.int a1), some (.int a2)]) bf92_0 rfl)
theorem bx93 {w : am_Wd} {a0 : Nat} : am_x 93 [.ref a0] w = am_run 93 0 [some (.ref a0), none] [] w :=
  congrArg (fun l => am_run 93 0 l [] w) (bnr (ls := am_xp [.ref a0] ++ List.replicate (am_ml 93 - (am_xp [.ref a0]).length) none) (ls' := [some (.ref a0), none]) bf93_0 rfl)
theorem bx118 {w : am_Wd} {a0 : Nat} : am_x 118 [.ref a0] w = am_run 118 0 [some (.ref a0), none] [] w :=
  congrArg (fun l => am_run 118 0 l [] w) (bnr (ls := am_xp [.ref a0] ++ List.replicate (am_ml 118 - (am_xp [.ref a0]).length) none) (ls' := [some (.ref a0), none]) bf118_0 rfl)
theorem bx119 {w : am_Wd} {a0 : Nat} {a1 : Int32} {a2 : Nat} : am_x 119 [.ref a0, .int a1, .ref a2] w = am_run 119 0 [some (.ref a0), some (.int a1), some (.ref a2), none] [] w :=
  congrArg (fun l => am_run 119 0 l [] w) (bnr (ls := am_xp [.ref a0, .int a1, .ref a2] ++ List.replicate (am_ml 119 - (am_xp [.ref a0, .int a1, .ref a2]).length) none) (ls' := [some (.ref a0), some (.int a1), some (.ref a2), none]) bf119_0 rfl)
theorem bx120 {w : am_Wd} {a0 : Nat} {a1 : Int32} {a2 : Nat} : am_x 120 [.ref a0, .int a1, .ref a2] w = am_run 120 0 [some (.ref a0), some (.int a1), some (.ref a2), none] [] w :=
  congrArg (fun l => am_run 120 0 l [] w) (bnr (ls := am_xp [.ref a0, .int a1, .ref a2] ++ List.replicate (am_ml 120 - (am_xp [.ref a0, .int a1, .ref a2]).length) none) (ls' := [some (.ref a0), some (.int a1), some (.ref a2), none]) bf120_0 rfl)
theorem bx121 {w : am_Wd} {a0 : Nat} {a1 : Int32} {a2 : Nat} : am_x 121 [.ref a0, .int a1, .ref a2] w = am_run 121 0 [some (.ref a0), some (.int a1), some (.ref a2), none, none] [] w :=
  congrArg (fun l => am_run 121 0 l [] w) (bnr (ls := am_xp [.ref a0, .int a1, .ref a2] ++ List.replicate (am_ml 121 - (am_xp [.ref a0, .int a1, .ref a2]).length) none) (ls' := [some (.ref a0), some (.int a1), some (.ref a2), none, none]) bf121_0 rfl)
theorem bx122 {w : am_Wd} {a0 : Nat} {a1 : Int32} {a2 : Nat} : am_x 122 [.ref a0, .int a1, .ref a2] w = am_run 122 0 [some (.ref a0), some (.int a1), some (.ref a2), none, none] [] w :=
  congrArg (fun l => am_run 122 0 l [] w) (bnr (ls := am_xp [.ref a0, .int a1, .ref a2] ++ List.replicate (am_ml 122 - (am_xp [.ref a0, .int a1, .ref a2]).length) none) (ls' := [some (.ref a0), some (.int a1), some (.ref a2), none, none]) bf122_0 rfl)
theorem bx123 {w : am_Wd} {a0 : Nat} {a1 : Int32} {a2 : Int32} {a3 : Int32} {a4 : Int32} : am_x 123 [.ref a0, .int a1, .int a2, .int a3, .int a4] w = am_run 123 0 [some (.ref a0), some (.int a1), some (.int a2), some (.int a3), some (.int a4), none] [] w :=
  congrArg (fun l => am_run 123 0 l [] w) (bnr (ls := am_xp [.ref a0, .int a1, .int a2, .int a3, .int a4] ++ List.replicate (am_ml 123 - (am_xp [.ref a0, .int a1, .int a2, .int a3, .int a4]).length) none) (ls' := [some (.ref a0), some (.int a1), some (.int a2), some (.int a3), some (.int a4), none]) bf123_0 rfl)
theorem bx124 {w : am_Wd} {a0 : Nat} {a1 : Int32} {a2 : Int32} : am_x 124 [.ref a0, .int a1, .int a2] w = am_run 124 0 [some (.ref a0), some (.int a1), some (.int a2), none] [] w :=
  congrArg (fun l => am_run 124 0 l [] w) (bnr (ls := am_xp [.ref a0, .int a1, .int a2] ++ List.replicate (am_ml 124 - (am_xp [.ref a0, .int a1, .int a2]).length) none) (ls' := [some (.ref a0), some (.int a1), some (.int a2), none]) bf124_0 rfl)
theorem bx125 {w : am_Wd} {a0 : Nat} {a1 : Int32} {a2 : Int32} : am_x 125 [.ref a0, .int a1, .int a2] w = am_run 125 0 [some (.ref a0), some (.int a1), some (.int a2), none] [] w :=
  congrArg (fun l => am_run 125 0 l [] w) (bnr (ls := am_xp [.ref a0, .int a1, .int a2] ++ List.replicate (am_ml 125 - (am_xp [.ref a0, .int a1, .int a2]).length) none) (ls' := [some (.ref a0), some (.int a1), some (.int a2), none]) bf125_0 rfl)
theorem bx126 {w : am_Wd} {a0 : Nat} {a1 : Int32} {a2 : Int32} {a3 : Int32} : am_x 126 [.ref a0, .int a1, .int a2, .int a3] w = am_run 126 0 [some (.ref a0), some (.int a1), some (.int a2), some (.int a3), none] [] w :=
  congrArg (fun l => am_run 126 0 l [] w) (bnr (ls := am_xp [.ref a0, .int a1, .int a2, .int a3] ++ List.replicate (am_ml 126 - (am_xp [.ref a0, .int a1, .int a2, .int a3]).length) none) (ls' := [some (.ref a0), some (.int a1), some (.int a2), some (.int a3), none]) bf126_0 rfl)
theorem bx127 {w : am_Wd} {a0 : Nat} {a1 : Int32} {a2 : Int32} {a3 : Int32} {a4 : Int32} : am_x 127 [.ref a0, .int a1, .int a2, .int a3, .int a4] w = am_run 127 0 [some (.ref a0), some (.int a1), some (.int a2), some (.int a3), some (.int a4)] [] w :=
  congrArg (fun l => am_run 127 0 l [] w) (bnr (ls := am_xp [.ref a0, .int a1, .int a2, .int a3, .int a4] ++ List.replicate (am_ml 127 - (am_xp [.ref a0, .int a1, .int a2, .int a3, .int a4]).length) none) (ls' := [some (.ref a0), some (.int a1), some (.int a2), some (.int a3), some (.int a4)]) bf127_0 rfl)
theorem bx128 {w : am_Wd} {a0 : Nat} : am_x 128 [.ref a0] w = am_run 128 0 [some (.ref a0)] [] w :=
  congrArg (fun l => am_run 128 0 l [] w) (bnr (ls := am_xp [.ref a0] ++ List.replicate (am_ml 128 - (am_xp [.ref a0]).length) none) (ls' := [some (.ref a0)]) bf128_0 rfl)
theorem bx129 {w : am_Wd} {a0 : Nat} : am_x 129 [.ref a0] w = am_run 129 0 [some (.ref a0)] [] w :=
  congrArg (fun l => am_run 129 0 l [] w) (bnr (ls := am_xp [.ref a0] ++ List.replicate (am_ml 129 - (am_xp [.ref a0]).length) none) (ls' := [some (.ref a0)]) bf129_0 rfl)
theorem bx130 {w : am_Wd} {a0 : Nat} : am_x 130 [.ref a0] w = am_run 130 0 [some (.ref a0), none] [] w :=
  congrArg (fun l => am_run 130 0 l [] w) (bnr (ls := am_xp [.ref a0] ++ List.replicate (am_ml 130 - (am_xp [.ref a0]).length) none) (ls' := [some (.ref a0), none]) bf130_0 rfl)
theorem bx132 {w : am_Wd} {a0 : Nat} {a1 : Int32} : am_x 132 [.ref a0, .int a1] w = am_run 132 0 [some (.ref a0), some (.int a1), none, none, none, none, none, none] [] w :=
  congrArg (fun l => am_run 132 0 l [] w) (bnr (ls := am_xp [.ref a0, .int a1] ++ List.replicate (am_ml 132 - (am_xp [.ref a0, .int a1]).length) none) (ls' := [some (.ref a0), some (.int a1), none, none, none, none, none, none]) bf132_0 rfl)
theorem bx135 {w : am_Wd} {a0 : Nat} {a1 : Int32} : am_x 135 [.ref a0, .int a1] w = am_run 135 0 [some (.ref a0), some (.int a1)] [] w :=
  congrArg (fun l => am_run 135 0 l [] w) (bnr (ls := am_xp [.ref a0, .int a1] ++ List.replicate (am_ml 135 - (am_xp [.ref a0, .int a1]).length) none) (ls' := [some (.ref a0), some (.int a1)]) bf135_0 rfl)
theorem bx136 {w : am_Wd} {a0 : Nat} {a1 : Int32} : am_x 136 [.ref a0, .int a1] w = am_run 136 0 [some (.ref a0), some (.int a1)] [] w :=
  congrArg (fun l => am_run 136 0 l [] w) (bnr (ls := am_xp [.ref a0, .int a1] ++ List.replicate (am_ml 136 - (am_xp [.ref a0, .int a1]).length) none) (ls' := [some (.ref a0), some (.int a1)]) bf136_0 rfl)
theorem bx137 {w : am_Wd} {a0 : Nat} {a1 : Int32} {a2 : Int32} {a3 : Int32} : am_x 137 [.ref a0, .int a1, .int a2, .int a3] w = am_run 137 0 [some (.ref a0), some (.int a1), some (.int a2), some (.int a3), none] [] w :=
  congrArg (fun l => am_run 137 0 l [] w) (bnr (ls := am_xp [.ref a0, .int a1, .int a2, .int a3] ++ List.replicate (am_ml 137 - (am_xp [.ref a0, .int a1, .int a2, .int a3]).length) none) (ls' := [some (.ref a0), some (.int a1), some (.int a2), some (.int a3), none]) bf137_0 rfl)
theorem bx138 {w : am_Wd} {a0 : Nat} {a1 : Int32} {a2 : Int32} : am_x 138 [.ref a0, .int a1, .int a2] w = am_run 138 0 [some (.ref a0), some (.int a1), some (.int a2), none] [] w :=
  congrArg (fun l => am_run 138 0 l [] w) (bnr (ls := am_xp [.ref a0, .int a1, .int a2] ++ List.replicate (am_ml 138 - (am_xp [.ref a0, .int a1, .int a2]).length) none) (ls' := [some (.ref a0), some (.int a1), some (.int a2), none]) bf138_0 rfl)
theorem bx139 {w : am_Wd} {a0 : Nat} {a1 : Int32} {a2 : Int32} : am_x 139 [.ref a0, .int a1, .int a2] w = am_run 139 0 [some (.ref a0), some (.int a1), some (.int a2), none] [] w :=
  congrArg (fun l => am_run 139 0 l [] w) (bnr (ls := am_xp [.ref a0, .int a1, .int a2] ++ List.replicate (am_ml 139 - (am_xp [.ref a0, .int a1, .int a2]).length) none) (ls' := [some (.ref a0), some (.int a1), some (.int a2), none]) bf139_0 rfl)
theorem bx140 {w : am_Wd} {a0 : Nat} {a1 : Int32} {a2 : Int32} {a3 : Int32} : am_x 140 [.ref a0, .int a1, .int a2, .int a3] w = am_run 140 0 [some (.ref a0), some (.int a1), some (.int a2), some (.int a3), none] [] w :=
  congrArg (fun l => am_run 140 0 l [] w) (bnr (ls := am_xp [.ref a0, .int a1, .int a2, .int a3] ++ List.replicate (am_ml 140 - (am_xp [.ref a0, .int a1, .int a2, .int a3]).length) none) (ls' := [some (.ref a0), some (.int a1), some (.int a2), some (.int a3), none]) bf140_0 rfl)
theorem bx141 {w : am_Wd} {a0 : Nat} {a1 : Nat} : am_x 141 [.ref a0, .ref a1] w = am_run 141 0 [some (.ref a0), some (.ref a1)] [] w :=
  congrArg (fun l => am_run 141 0 l [] w) (bnr (ls := am_xp [.ref a0, .ref a1] ++ List.replicate (am_ml 141 - (am_xp [.ref a0, .ref a1]).length) none) (ls' := [some (.ref a0), some (.ref a1)]) bf141_0 rfl)
theorem bx157 {w : am_Wd} {a0 : Nat} {a1 : Int32} : am_x 157 [.ref a0, .int a1] w = am_run 157 0 [some (.ref a0), some (.int a1), none, none, none] [] w :=
  congrArg (fun l => am_run 157 0 l [] w) (bnr (ls := am_xp [.ref a0, .int a1] ++ List.replicate (am_ml 157 - (am_xp [.ref a0, .int a1]).length) none) (ls' := [some (.ref a0), some (.int a1), none, none, none]) bf157_0 rfl)
theorem bx158 {w : am_Wd} {a0 : Nat} {a1 : Int32} {a2 : Int32} {a3 : Int32} : am_x 158 [.ref a0, .int a1, .int a2, .int a3] w = am_run 158 0 [some (.ref a0), some (.int a1), some (.int a2), some (.int a3), none, none] [] w :=
  congrArg (fun l => am_run 158 0 l [] w) (bnr (ls := am_xp [.ref a0, .int a1, .int a2, .int a3] ++ List.replicate (am_ml 158 - (am_xp [.ref a0, .int a1, .int a2, .int a3]).length) none) (ls' := [some (.ref a0), some (.int a1), some (.int a2), some (.int a3), none, none]) bf158_0 rfl)
theorem bx159 {w : am_Wd} {a0 : Nat} {a1 : Nat} {a2 : Int32} {a3 : Int32} : am_x 159 [.ref a0, .ref a1, .int a2, .int a3] w = am_run 159 0 [some (.ref a0), some (.ref a1), some (.int a2), some (.int a3), none, none, none, none, none] [] w :=
  congrArg (fun l => am_run 159 0 l [] w) (bnr (ls := am_xp [.ref a0, .ref a1, .int a2, .int a3] ++ List.replicate (am_ml 159 - (am_xp [.ref a0, .ref a1, .int a2, .int a3]).length) none) (ls' := [some (.ref a0), some (.ref a1), some (.int a2), some (.int a3), none, none, none, none, none]) bf159_0 rfl)
theorem bx160 {w : am_Wd} {a0 : Nat} {a1 : Int32} : am_x 160 [.ref a0, .int a1] w = am_run 160 0 [some (.ref a0), some (.int a1), none] [] w :=
  congrArg (fun l => am_run 160 0 l [] w) (bnr (ls := am_xp [.ref a0, .int a1] ++ List.replicate (am_ml 160 - (am_xp [.ref a0, .int a1]).length) none) (ls' := [some (.ref a0), some (.int a1), none]) bf160_0 rfl)
theorem bx161 {w : am_Wd} {a0 : Nat} {a1 : Int32} : am_x 161 [.ref a0, .int a1] w = am_run 161 0 [some (.ref a0), some (.int a1), none, none] [] w :=
  congrArg (fun l => am_run 161 0 l [] w) (bnr (ls := am_xp [.ref a0, .int a1] ++ List.replicate (am_ml 161 - (am_xp [.ref a0, .int a1]).length) none) (ls' := [some (.ref a0), some (.int a1), none, none]) bf161_0 rfl)
theorem bx162 {w : am_Wd} {a0 : Nat} : am_x 162 [.ref a0] w = am_run 162 0 [some (.ref a0), none] [] w :=
  congrArg (fun l => am_run 162 0 l [] w) (bnr (ls := am_xp [.ref a0] ++ List.replicate (am_ml 162 - (am_xp [.ref a0]).length) none) (ls' := [some (.ref a0), none]) bf162_0 rfl)
theorem bx163 {w : am_Wd} {a0 : Nat} : am_x 163 [.ref a0] w = am_run 163 0 [some (.ref a0), none] [] w :=
  congrArg (fun l => am_run 163 0 l [] w) (bnr (ls := am_xp [.ref a0] ++ List.replicate (am_ml 163 - (am_xp [.ref a0]).length) none) (ls' := [some (.ref a0), none]) bf163_0 rfl)
theorem bx164 {w : am_Wd} {a0 : Nat} {a1 : Int32} : am_x 164 [.ref a0, .int a1] w = am_run 164 0 [some (.ref a0), some (.int a1), none, none] [] w :=
  congrArg (fun l => am_run 164 0 l [] w) (bnr (ls := am_xp [.ref a0, .int a1] ++ List.replicate (am_ml 164 - (am_xp [.ref a0, .int a1]).length) none) (ls' := [some (.ref a0), some (.int a1), none, none]) bf164_0 rfl)
theorem bx165 {w : am_Wd} {a0 : Nat} {a1 : Int32} : am_x 165 [.ref a0, .int a1] w = am_run 165 0 [some (.ref a0), some (.int a1)] [] w :=
  congrArg (fun l => am_run 165 0 l [] w) (bnr (ls := am_xp [.ref a0, .int a1] ++ List.replicate (am_ml 165 - (am_xp [.ref a0, .int a1]).length) none) (ls' := [some (.ref a0), some (.int a1)]) bf165_0 rfl)
theorem bx167 {w : am_Wd} {a0 : Nat} {a1 : Int32} {a2 : Int32} {a3 : Int32} {a4 : Int32} : am_x 167 [.ref a0, .int a1, .int a2, .int a3, .int a4] w = am_run 167 0 [some (.ref a0), some (.int a1), some (.int a2), some (.int a3), some (.int a4), none] [] w :=
  congrArg (fun l => am_run 167 0 l [] w) (bnr (ls := am_xp [.ref a0, .int a1, .int a2, .int a3, .int a4] ++ List.replicate (am_ml 167 - (am_xp [.ref a0, .int a1, .int a2, .int a3, .int a4]).length) none) (ls' := [some (.ref a0), some (.int a1), some (.int a2), some (.int a3), some (.int a4), none]) bf167_0 rfl)
theorem bx169 {w : am_Wd} {a0 : Nat} {a1 : Int32} {a2 : Int32} {a3 : Int32} : am_x 169 [.ref a0, .int a1, .int a2, .int a3] w = am_run 169 0 [some (.ref a0), some (.int a1), some (.int a2), some (.int a3)] [] w :=
  congrArg (fun l => am_run 169 0 l [] w) (bnr (ls := am_xp [.ref a0, .int a1, .int a2, .int a3] ++ List.replicate (am_ml 169 - (am_xp [.ref a0, .int a1, .int a2, .int a3]).length) none) (ls' := [some (.ref a0), some (.int a1), some (.int a2), some (.int a3)]) bf169_0 rfl)
theorem bx171 {w : am_Wd} {a0 : Nat} {a1 : Nat} : am_x 171 [.ref a0, .ref a1] w = am_run 171 0 [some (.ref a0), some (.ref a1), none, none] [] w :=
  congrArg (fun l => am_run 171 0 l [] w) (bnr (ls := am_xp [.ref a0, .ref a1] ++ List.replicate (am_ml 171 - (am_xp [.ref a0, .ref a1]).length) none) (ls' := [some (.ref a0), some (.ref a1), none, none]) bf171_0 rfl)
theorem bx199 {w : am_Wd} {a0 : Nat} : am_x 199 [.ref a0] w = am_run 199 0 [some (.ref a0), none] [] w :=
  congrArg (fun l => am_run 199 0 l [] w) (bnr (ls := am_xp [.ref a0] ++ List.replicate (am_ml 199 - (am_xp [.ref a0]).length) none) (ls' := [some (.ref a0), none]) bf199_0 rfl)
theorem bx200 {w : am_Wd} {a0 : Nat} {a1 : Int32} : am_x 200 [.ref a0, .int a1] w = am_run 200 0 [some (.ref a0), some (.int a1)] [] w :=
  congrArg (fun l => am_run 200 0 l [] w) (bnr (ls := am_xp [.ref a0, .int a1] ++ List.replicate (am_ml 200 - (am_xp [.ref a0, .int a1]).length) none) (ls' := [some (.ref a0), some (.int a1)]) bf200_0 rfl)
theorem bx201 {w : am_Wd} {a0 : Nat} {a1 : Int32} {a2 : Int32} : am_x 201 [.ref a0, .int a1, .int a2] w = am_run 201 0 [some (.ref a0), some (.int a1), some (.int a2), none] [] w :=
  congrArg (fun l => am_run 201 0 l [] w) (bnr (ls := am_xp [.ref a0, .int a1, .int a2] ++ List.replicate (am_ml 201 - (am_xp [.ref a0, .int a1, .int a2]).length) none) (ls' := [some (.ref a0), some (.int a1), some (.int a2), none]) bf201_0 rfl)
theorem bx202 {w : am_Wd} {a0 : Nat} {a1 : Int32} {a2 : Int32} : am_x 202 [.ref a0, .int a1, .int a2] w = am_run 202 0 [some (.ref a0), some (.int a1), some (.int a2), none] [] w :=
  congrArg (fun l => am_run 202 0 l [] w) (bnr (ls := am_xp [.ref a0, .int a1, .int a2] ++ List.replicate (am_ml 202 - (am_xp [.ref a0, .int a1, .int a2]).length) none) (ls' := [some (.ref a0), some (.int a1), some (.int a2), none]) bf202_0 rfl)
theorem bx203 {w : am_Wd} {a0 : Nat} {a1 : Int32} : am_x 203 [.ref a0, .int a1] w = am_run 203 0 [some (.ref a0), some (.int a1), none, none, none] [] w :=
  congrArg (fun l => am_run 203 0 l [] w) (bnr (ls := am_xp [.ref a0, .int a1] ++ List.replicate (am_ml 203 - (am_xp [.ref a0, .int a1]).length) none) (ls' := [some (.ref a0), some (.int a1), none, none, none]) bf203_0 rfl)
theorem bx205 {w : am_Wd} {a0 : Nat} {a1 : Nat} : am_x 205 [.ref a0, .ref a1] w = am_run 205 0 [some (.ref a0), some (.ref a1), none, none, none] [] w :=
  congrArg (fun l => am_run 205 0 l [] w) (bnr (ls := am_xp [.ref a0, .ref a1] ++ List.replicate (am_ml 205 - (am_xp [.ref a0, .ref a1]).length) none) (ls' := [some (.ref a0), some (.ref a1), none, none, none]) bf205_0 rfl)
theorem bx223 {w : am_Wd} {a0 : Nat} {a1 : Int32} {a2 : Int32} : am_x 223 [.ref a0, .int a1, .int a2] w = am_run 223 0 [some (.ref a0), some (.int a1), some (.int a2), none] [] w :=
  congrArg (fun l => am_run 223 0 l [] w) (bnr (ls := am_xp [.ref a0, .int a1, .int a2] ++ List.replicate (am_ml 223 - (am_xp [.ref a0, .int a1, .int a2]).length) none) (ls' := [some (.ref a0), some (.int a1), some (.int a2), none]) bf223_0 rfl)
theorem bx224 {w : am_Wd} {a0 : Nat} : am_x 224 [.ref a0] w = am_run 224 0 [some (.ref a0), none, none] [] w :=
  congrArg (fun l => am_run 224 0 l [] w) (bnr (ls := am_xp [.ref a0] ++ List.replicate (am_ml 224 - (am_xp [.ref a0]).length) none) (ls' := [some (.ref a0), none, none]) bf224_0 rfl)
theorem bx225 {w : am_Wd} {a0 : Nat} {a1 : Nat} {a2 : Int32} : am_x 225 [.ref a0, .ref a1, .int a2] w = am_run 225 0 [some (.ref a0), some (.ref a1), some (.int a2)] [] w :=
  congrArg (fun l => am_run 225 0 l [] w) (bnr (ls := am_xp [.ref a0, .ref a1, .int a2] ++ List.replicate (am_ml 225 - (am_xp [.ref a0, .ref a1, .int a2]).length) none) (ls' := [some (.ref a0), some (.ref a1), some (.int a2)]) bf225_0 rfl)
theorem bx239 {w : am_Wd} {a0 : Nat} {a1 : Int32} {a2 : Int32} : am_x 239 [.ref a0, .int a1, .int a2] w = am_run 239 0 [some (.ref a0), some (.int a1), some (.int a2), none, none] [] w :=
  congrArg (fun l => am_run 239 0 l [] w) (bnr (ls := am_xp [.ref a0, .int a1, .int a2] ++ List.replicate (am_ml 239 - (am_xp [.ref a0, .int a1, .int a2]).length) none) (ls' := [some (.ref a0), some (.int a1), some (.int a2), none, none]) bf239_0 rfl)
theorem bx240 {w : am_Wd} {a0 : Nat} {a1 : Int32} {a2 : Int32} {a3 : Int32} : am_x 240 [.ref a0, .int a1, .int a2, .int a3] w = am_run 240 0 [some (.ref a0), some (.int a1), some (.int a2), some (.int a3), none] [] w :=
  congrArg (fun l => am_run 240 0 l [] w) (bnr (ls := am_xp [.ref a0, .int a1, .int a2, .int a3] ++ List.replicate (am_ml 240 - (am_xp [.ref a0, .int a1, .int a2, .int a3]).length) none) (ls' := [some (.ref a0), some (.int a1), some (.int a2), some (.int a3), none]) bf240_0 rfl)
theorem bx241 {w : am_Wd} {a0 : Nat} {a1 : Int32} {a2 : Int32} : am_x 241 [.ref a0, .int a1, .int a2] w = am_run 241 0 [some (.ref a0), some (.int a1), some (.int a2), none, none] [] w :=
  congrArg (fun l => am_run 241 0 l [] w) (bnr (ls := am_xp [.ref a0, .int a1, .int a2] ++ List.replicate (am_ml 241 - (am_xp [.ref a0, .int a1, .int a2]).length) none) (ls' := [some (.ref a0), some (.int a1), some (.int a2), none, none]) bf241_0 rfl)
theorem bx242 {w : am_Wd} {a0 : Nat} {a1 : Int32} {a2 : Int32} : am_x 242 [.ref a0, .int a1, .int a2] w = am_run 242 0 [some (.ref a0), some (.int a1), some (.int a2), none, none, none, none] [] w :=
  congrArg (fun l => am_run 242 0 l [] w) (bnr (ls := am_xp [.ref a0, .int a1, .int a2] ++ List.replicate (am_ml 242 - (am_xp [.ref a0, .int a1, .int a2]).length) none) (ls' := [some (.ref a0), some (.int a1), some (.int a2), none, none, none, none]) bf242_0 rfl)
theorem bx244 {w : am_Wd} {a0 : Nat} {a1 : Int64} {a2 : Int32} : am_x 244 [.ref a0, .long a1, .int a2] w = am_run 244 0 [some (.ref a0), some (.long a1), none, some (.int a2), none, none, none] [] w :=
  congrArg (fun l => am_run 244 0 l [] w) (bnr (ls := am_xp [.ref a0, .long a1, .int a2] ++ List.replicate (am_ml 244 - (am_xp [.ref a0, .long a1, .int a2]).length) none) (ls' := [some (.ref a0), some (.long a1), none, some (.int a2), none, none, none]) bf244_0 rfl)
theorem bx250 {w : am_Wd} {a0 : Nat} : am_x 250 [.ref a0] w = am_run 250 0 [some (.ref a0), none, none, none, none] [] w :=
  congrArg (fun l => am_run 250 0 l [] w) (bnr (ls := am_xp [.ref a0] ++ List.replicate (am_ml 250 - (am_xp [.ref a0]).length) none) (ls' := [some (.ref a0), none, none, none, none]) bf250_0 rfl)
theorem bx266 {w : am_Wd} {a0 : Int32} {a1 : Int32} : am_x 266 [.int a0, .int a1] w = am_run 266 0 [some (.int a0), some (.int a1)] [] w :=
  congrArg (fun l => am_run 266 0 l [] w) (bnr (ls := am_xp [.int a0, .int a1] ++ List.replicate (am_ml 266 - (am_xp [.int a0, .int a1]).length) none) (ls' := [some (.int a0), some (.int a1)]) bf266_0 rfl)
theorem bx267 {w : am_Wd} {a0 : Nat} {a1 : Int32} : am_x 267 [.ref a0, .int a1] w = am_run 267 0 [some (.ref a0), some (.int a1)] [] w :=
  congrArg (fun l => am_run 267 0 l [] w) (bnr (ls := am_xp [.ref a0, .int a1] ++ List.replicate (am_ml 267 - (am_xp [.ref a0, .int a1]).length) none) (ls' := [some (.ref a0), some (.int a1)]) bf267_0 rfl)
theorem bx268 {w : am_Wd} {a0 : Nat} {a1 : Int32} {a2 : Int32} {a3 : Int32} {a4 : Int32} : am_x 268 [.ref a0, .int a1, .int a2, .int a3, .int a4] w = am_run 268 0 [some (.ref a0), some (.int a1), some (.int a2), some (.int a3), some (.int a4), none] [] w :=
  congrArg (fun l => am_run 268 0 l [] w) (bnr (ls := am_xp [.ref a0, .int a1, .int a2, .int a3, .int a4] ++ List.replicate (am_ml 268 - (am_xp [.ref a0, .int a1, .int a2, .int a3, .int a4]).length) none) (ls' := [some (.ref a0), some (.int a1), some (.int a2), some (.int a3), some (.int a4), none]) bf268_0 rfl)
theorem bx269 {w : am_Wd} {a0 : Nat} {a1 : Int32} : am_x 269 [.ref a0, .int a1] w = am_run 269 0 [some (.ref a0), some (.int a1), none, none, none] [] w :=
  congrArg (fun l => am_run 269 0 l [] w) (bnr (ls := am_xp [.ref a0, .int a1] ++ List.replicate (am_ml 269 - (am_xp [.ref a0, .int a1]).length) none) (ls' := [some (.ref a0), some (.int a1), none, none, none]) bf269_0 rfl)
theorem bx270 {w : am_Wd} {a0 : Nat} : am_x 270 [.ref a0] w = am_run 270 0 [some (.ref a0), none, none, none, none, none, none, none, none, none, none, none] [] w :=
  congrArg (fun l => am_run 270 0 l [] w) (bnr (ls := am_xp [.ref a0] ++ List.replicate (am_ml 270 - (am_xp [.ref a0]).length) none) (ls' := [some (.ref a0), none, none, none, none, none, none, none, none, none, none, none]) bf270_0 rfl)
