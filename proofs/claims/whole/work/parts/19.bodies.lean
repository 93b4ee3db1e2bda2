theorem dX0_add_0 : decode cX0_add 0 = .ok (.aload_n 0, 1) := by decide +kernel
theorem dX0_add_1 : decode cX0_add 1 = .ok (.getfield 9, 3) := by decide +kernel
theorem dX0_add_4 : decode cX0_add 4 = .ok (.aload_n 0, 1) := by decide +kernel
theorem dX0_add_5 : decode cX0_add 5 = .ok (.getfield 16, 3) := by decide +kernel
theorem dX0_add_8 : decode cX0_add 8 = .ok (.iload_n 1, 1) := by decide +kernel
theorem dX0_add_9 : decode cX0_add 9 = .ok (.iastore, 1) := by decide +kernel
theorem dX0_add_10 : decode cX0_add 10 = .ok (.aload_n 0, 1) := by decide +kernel
theorem dX0_add_11 : decode cX0_add 11 = .ok (.dup, 1) := by decide +kernel
theorem dX0_add_12 : decode cX0_add 12 = .ok (.getfield 16, 3) := by decide +kernel
theorem dX0_add_15 : decode cX0_add 15 = .ok (.iconst 1, 1) := by decide +kernel
theorem dX0_add_16 : decode cX0_add 16 = .ok (.iadd, 1) := by decide +kernel
theorem dX0_add_17 : decode cX0_add 17 = .ok (.putfield 16, 3) := by decide +kernel
theorem dX0_add_20 : decode cX0_add 20 = .ok (.aload_n 0, 1) := by decide +kernel
theorem dX0_add_21 : decode cX0_add 21 = .ok (.getfield 16, 3) := by decide +kernel
theorem dX0_add_24 : decode cX0_add 24 = .ok (.iconst 1, 1) := by decide +kernel
theorem dX0_add_25 : decode cX0_add 25 = .ok (.isub, 1) := by decide +kernel
theorem dX0_add_26 : decode cX0_add 26 = .ok (.ireturn, 1) := by decide +kernel
theorem ok_yX0_add : yOk yX0_add 1 := ⟨by decide +kernel, by decide +kernel, by decide +kernel⟩
def fX0_add (st : St) (a1 : Int32) : Option (Int32 × St) := gd (inB (gI st 49 1) 50) (bnd (sI st 50 (gI st 49 1).toNatClampNeg a1) (fun st2 => bnd (sI st2 49 1 ((gI st2 49 1) + (1 : Int32))) (fun st4 => some (((gI st4 49 1) - (1 : Int32)), st4))))
set_option maxHeartbeats 4000000 in
theorem zX0_add (l : Launch) (X : WX) (st : St) (a1 : Int32) (R : Int32 × St) (hf : fX0_add st a1 = some R) : CtI l yX0_add cX0_add 2 .int ({ frames := 0, cells := 0, slots := 0, locals := 0 }) EC 65 X [.ref (xq X 49), .int a1] st R.1 R.2 := by
  refine ct_in (own := RX0) (by decide +kernel) rfl (Nat.le_of_ble_eq_true rfl) (fun p e s m below meth c C hr hw ls hl => ?_)
  obtain ⟨hx, hb, hml, hown, hts⟩ := id C.1
  have hl : lv_has ls 2 [(0, .ref (xq X 49)), (1, .int a1)] := hl
  unfold fX0_add at hf
  refine lv_aload_n hx hb dX0_add_0 rfl (lv_at hl 0 rfl) ?_
  refine w_get (T := TX0) C hw (by decide) 0 kf_X0_9 (EC_49 X _ _) rfl inA0 (by decide) rfl dX0_add_1 ?_
  refine lv_aload_n hx hb dX0_add_4 rfl (lv_at hl 0 rfl) ?_
  refine w_get (T := TX0) C hw (by decide) 1 kf_X0_16 (EC_49 X _ _) rfl inA0 (by decide) rfl dX0_add_5 ?_
  refine lv_iload_n hx hb dX0_add_8 rfl (lv_at hl 1 rfl) ?_
  obtain ⟨h1, hf⟩ := gd_some hf
  obtain ⟨st2, es3⟩ : ∃ z : St, z = sI st 50 (gI st 49 1).toNatClampNeg a1 := ⟨_, rfl⟩
  replace hf := bnd_nm hf es3
  refine w_iast C hw (by decide) (fun f9 => EC_50 X f9 _) h1 rfl dX0_add_9 (fun H locs hw => ?_)
  rw [← es3] at hw
  refine lv_aload_n hx hb dX0_add_10 rfl (lv_at hl 0 rfl) ?_
  refine lv_dup hx hb dX0_add_11 rfl ?_
  refine w_get (T := TX0) C hw (by decide) 1 kf_X0_16 (EC_49 X _ _) rfl inA0 (by decide) rfl dX0_add_12 ?_
  refine lv_iconst (v := 1) hx hb dX0_add_15 (by decide) ?_
  refine lv_iadd hx hb dX0_add_16 ?_
  obtain ⟨st4, es5⟩ : ∃ z : St, z = sI st2 49 1 ((gI st2 49 1) + (1 : Int32)) := ⟨_, rfl⟩
  replace hf := bnd_nm hf es5
  refine w_puti (T := TX0) C hw (by decide) 1 kf_X0_16 (EC_49 X _ _) rfl inA0 tyX0_ok nmX0 (by decide) rfl rfl (Nat.le_of_ble_eq_true rfl) rfl dX0_add_17 (fun H locs hw => ?_)
  rw [← es5] at hw
  refine lv_aload_n hx hb dX0_add_20 rfl (lv_at hl 0 rfl) ?_
  refine w_get (T := TX0) C hw (by decide) 1 kf_X0_16 (EC_49 X _ _) rfl inA0 (by decide) rfl dX0_add_21 ?_
  refine lv_iconst (v := 1) hx hb dX0_add_24 (by decide) ?_
  refine lv_isub hx hb dX0_add_25 ?_
  exact w_iret C hw hr (so2 hf).1 (so2 hf).2 dX0_add_26
theorem dX0_runFrom_0 : decode cX0_runFrom 0 = .ok (.iload_n 1, 1) := by decide +kernel
theorem dX0_runFrom_1 : decode cX0_runFrom 1 = .ok (.istore 6, 2) := by decide +kernel
theorem dX0_runFrom_3 : decode cX0_runFrom 3 = .ok (.iconst 0, 1) := by decide +kernel
theorem dX0_runFrom_4 : decode cX0_runFrom 4 = .ok (.istore 7, 2) := by decide +kernel
theorem dX0_runFrom_6 : decode cX0_runFrom 6 = .ok (.iload 7, 2) := by decide +kernel
theorem dX0_runFrom_8 : decode cX0_runFrom 8 = .ok (.bipush 8, 2) := by decide +kernel
theorem dX0_runFrom_10 : decode cX0_runFrom 10 = .ok (.if_icmp .ge 64, 3) := by decide +kernel
theorem dX0_runFrom_13 : decode cX0_runFrom 13 = .ok (.iload 6, 2) := by decide +kernel
theorem dX0_runFrom_15 : decode cX0_runFrom 15 = .ok (.ifCond .lt 59, 3) := by decide +kernel
theorem dX0_runFrom_18 : decode cX0_runFrom 18 = .ok (.getstatic 27, 3) := by decide +kernel
theorem dX0_runFrom_21 : decode cX0_runFrom 21 = .ok (.iconst 4, 1) := by decide +kernel
theorem dX0_runFrom_22 : decode cX0_runFrom 22 = .ok (.iload 6, 2) := by decide +kernel
theorem dX0_runFrom_24 : decode cX0_runFrom 24 = .ok (.imul, 1) := by decide +kernel
theorem dX0_runFrom_25 : decode cX0_runFrom 25 = .ok (.iload_n 3, 1) := by decide +kernel
theorem dX0_runFrom_26 : decode cX0_runFrom 26 = .ok (.iadd, 1) := by decide +kernel
theorem dX0_runFrom_27 : decode cX0_runFrom 27 = .ok (.iaload, 1) := by decide +kernel
theorem dX0_runFrom_28 : decode cX0_runFrom 28 = .ok (.istore 8, 2) := by decide +kernel
theorem dX0_runFrom_30 : decode cX0_runFrom 30 = .ok (.iload 8, 2) := by decide +kernel
theorem dX0_runFrom_32 : decode cX0_runFrom 32 = .ok (.ifCond .eq 28, 3) := by decide +kernel
theorem dX0_runFrom_35 : decode cX0_runFrom 35 = .ok (.iload 5, 2) := by decide +kernel
theorem dX0_runFrom_37 : decode cX0_runFrom 37 = .ok (.bipush 20, 2) := by decide +kernel
theorem dX0_runFrom_39 : decode cX0_runFrom 39 = .ok (.if_icmp .ge 19, 3) := by decide +kernel
theorem dX0_runFrom_42 : decode cX0_runFrom 42 = .ok (.aload_n 0, 1) := by decide +kernel
theorem dX0_runFrom_43 : decode cX0_runFrom 43 = .ok (.iload 8, 2) := by decide +kernel
theorem dX0_runFrom_45 : decode cX0_runFrom 45 = .ok (.iload_n 2, 1) := by decide +kernel
theorem dX0_runFrom_46 : decode cX0_runFrom 46 = .ok (.iload 4, 2) := by decide +kernel
theorem dX0_runFrom_48 : decode cX0_runFrom 48 = .ok (.iload 5, 2) := by decide +kernel
theorem dX0_runFrom_50 : decode cX0_runFrom 50 = .ok (.iconst 1, 1) := by decide +kernel
theorem dX0_runFrom_51 : decode cX0_runFrom 51 = .ok (.iadd, 1) := by decide +kernel
theorem dX0_runFrom_52 : decode cX0_runFrom 52 = .ok (.invokevirtual 30, 3) := by decide +kernel
theorem dX0_runFrom_55 : decode cX0_runFrom 55 = .ok (.goto 4, 3) := by decide +kernel
theorem dX0_runFrom_58 : decode cX0_runFrom 58 = .ok (.iconst 0, 1) := by decide +kernel
theorem dX0_runFrom_59 : decode cX0_runFrom 59 = .ok (.ireturn, 1) := by decide +kernel
theorem dX0_runFrom_60 : decode cX0_runFrom 60 = .ok (.getstatic 20, 3) := by decide +kernel
theorem dX0_runFrom_63 : decode cX0_runFrom 63 = .ok (.iload 6, 2) := by decide +kernel
theorem dX0_runFrom_65 : decode cX0_runFrom 65 = .ok (.iaload, 1) := by decide +kernel
theorem dX0_runFrom_66 : decode cX0_runFrom 66 = .ok (.istore 6, 2) := by decide +kernel
theorem dX0_runFrom_68 : decode cX0_runFrom 68 = .ok (.iinc 7 1, 3) := by decide +kernel
theorem dX0_runFrom_71 : decode cX0_runFrom 71 = .ok (.goto (-65), 3) := by decide +kernel
theorem dX0_runFrom_74 : decode cX0_runFrom 74 = .ok (.iconst 0, 1) := by decide +kernel
theorem dX0_runFrom_75 : decode cX0_runFrom 75 = .ok (.ireturn, 1) := by decide +kernel
theorem dX0_ofItsOwn_0 : decode cX0_ofItsOwn 0 = .ok (.aload_n 0, 1) := by decide +kernel
theorem dX0_ofItsOwn_1 : decode cX0_ofItsOwn 1 = .ok (.aload_n 0, 1) := by decide +kernel
theorem dX0_ofItsOwn_2 : decode cX0_ofItsOwn 2 = .ok (.getfield 9, 3) := by decide +kernel
theorem dX0_ofItsOwn_5 : decode cX0_ofItsOwn 5 = .ok (.iload_n 1, 1) := by decide +kernel
theorem dX0_ofItsOwn_6 : decode cX0_ofItsOwn 6 = .ok (.iaload, 1) := by decide +kernel
theorem dX0_ofItsOwn_7 : decode cX0_ofItsOwn 7 = .ok (.iload_n 1, 1) := by decide +kernel
theorem dX0_ofItsOwn_8 : decode cX0_ofItsOwn 8 = .ok (.iload_n 2, 1) := by decide +kernel
theorem dX0_ofItsOwn_9 : decode cX0_ofItsOwn 9 = .ok (.iload_n 3, 1) := by decide +kernel
theorem dX0_ofItsOwn_10 : decode cX0_ofItsOwn 10 = .ok (.iload 4, 2) := by decide +kernel
theorem dX0_ofItsOwn_12 : decode cX0_ofItsOwn 12 = .ok (.invokevirtual 23, 3) := by decide +kernel
theorem dX0_ofItsOwn_15 : decode cX0_ofItsOwn 15 = .ok (.ireturn, 1) := by decide +kernel
theorem dX0_fromAbove_0 : decode cX0_fromAbove 0 = .ok (.aload_n 0, 1) := by decide +kernel
theorem dX0_fromAbove_1 : decode cX0_fromAbove 1 = .ok (.getstatic 20, 3) := by decide +kernel
theorem dX0_fromAbove_4 : decode cX0_fromAbove 4 = .ok (.iload_n 1, 1) := by decide +kernel
theorem dX0_fromAbove_5 : decode cX0_fromAbove 5 = .ok (.iaload, 1) := by decide +kernel
theorem dX0_fromAbove_6 : decode cX0_fromAbove 6 = .ok (.iload_n 2, 1) := by decide +kernel
theorem dX0_fromAbove_7 : decode cX0_fromAbove 7 = .ok (.iload_n 3, 1) := by decide +kernel
theorem dX0_fromAbove_8 : decode cX0_fromAbove 8 = .ok (.iload 4, 2) := by decide +kernel
theorem dX0_fromAbove_10 : decode cX0_fromAbove 10 = .ok (.iload 5, 2) := by decide +kernel
theorem dX0_fromAbove_12 : decode cX0_fromAbove 12 = .ok (.invokevirtual 23, 3) := by decide +kernel
theorem dX0_fromAbove_15 : decode cX0_fromAbove 15 = .ok (.ireturn, 1) := by decide +kernel
theorem dX0_run_0 : decode cX0_run 0 = .ok (.aload_n 0, 1) := by decide +kernel
theorem dX0_run_1 : decode cX0_run 1 = .ok (.getfield 34, 3) := by decide +kernel
theorem dX0_run_4 : decode cX0_run 4 = .ok (.bipush 24, 2) := by decide +kernel
theorem dX0_run_6 : decode cX0_run 6 = .ok (.if_icmp .ge 13, 3) := by decide +kernel
theorem dX0_run_9 : decode cX0_run 9 = .ok (.aload_n 0, 1) := by decide +kernel
theorem dX0_run_10 : decode cX0_run 10 = .ok (.getfield 13, 3) := by decide +kernel
theorem dX0_run_13 : decode cX0_run 13 = .ok (.aload_n 0, 1) := by decide +kernel
theorem dX0_run_14 : decode cX0_run 14 = .ok (.getfield 34, 3) := by decide +kernel
theorem dX0_run_17 : decode cX0_run 17 = .ok (.iload_n 1, 1) := by decide +kernel
theorem dX0_run_18 : decode cX0_run 18 = .ok (.iastore, 1) := by decide +kernel
theorem dX0_run_19 : decode cX0_run 19 = .ok (.aload_n 0, 1) := by decide +kernel
theorem dX0_run_20 : decode cX0_run 20 = .ok (.dup, 1) := by decide +kernel
theorem dX0_run_21 : decode cX0_run 21 = .ok (.getfield 34, 3) := by decide +kernel
theorem dX0_run_24 : decode cX0_run 24 = .ok (.iconst 1, 1) := by decide +kernel
theorem dX0_run_25 : decode cX0_run 25 = .ok (.iadd, 1) := by decide +kernel
theorem dX0_run_26 : decode cX0_run 26 = .ok (.putfield 34, 3) := by decide +kernel
theorem dX0_run_29 : decode cX0_run 29 = .ok (.iload_n 1, 1) := by decide +kernel
theorem dX0_run_30 : decode cX0_run 30 = .ok (.lookupswitch 310 #[(1, 122), (2, 126), (10, 146), (11, 158), (20, 162), (30, 175), (40, 187), (41, 200), (50, 213), (60, 226), (61, 247), (70, 260), (80, 274), (81, 296)], 122) := by decide +kernel
theorem dX0_run_152 : decode cX0_run 152 = .ok (.iload_n 3, 1) := by decide +kernel
theorem dX0_run_153 : decode cX0_run 153 = .ok (.iload_n 2, 1) := by decide +kernel
theorem dX0_run_154 : decode cX0_run 154 = .ok (.iadd, 1) := by decide +kernel
theorem dX0_run_155 : decode cX0_run 155 = .ok (.ireturn, 1) := by decide +kernel
theorem dX0_run_156 : decode cX0_run 156 = .ok (.aload_n 0, 1) := by decide +kernel
theorem dX0_run_157 : decode cX0_run 157 = .ok (.iload_n 2, 1) := by decide +kernel
theorem dX0_run_158 : decode cX0_run 158 = .ok (.iconst 1, 1) := by decide +kernel
theorem dX0_run_159 : decode cX0_run 159 = .ok (.iload_n 3, 1) := by decide +kernel
theorem dX0_run_160 : decode cX0_run 160 = .ok (.iload 4, 2) := by decide +kernel
theorem dX0_run_162 : decode cX0_run 162 = .ok (.invokevirtual 37, 3) := by decide +kernel
theorem dX0_run_165 : decode cX0_run 165 = .ok (.aload_n 0, 1) := by decide +kernel
theorem dX0_run_166 : decode cX0_run 166 = .ok (.iload_n 2, 1) := by decide +kernel
theorem dX0_run_167 : decode cX0_run 167 = .ok (.iconst 2, 1) := by decide +kernel
theorem dX0_run_168 : decode cX0_run 168 = .ok (.iconst 1, 1) := by decide +kernel
theorem dX0_run_169 : decode cX0_run 169 = .ok (.iload 4, 2) := by decide +kernel
theorem dX0_run_171 : decode cX0_run 171 = .ok (.invokevirtual 37, 3) := by decide +kernel
theorem dX0_run_174 : decode cX0_run 174 = .ok (.isub, 1) := by decide +kernel
theorem dX0_run_175 : decode cX0_run 175 = .ok (.ireturn, 1) := by decide +kernel
theorem dX0_run_176 : decode cX0_run 176 = .ok (.aload_n 0, 1) := by decide +kernel
theorem dX0_run_177 : decode cX0_run 177 = .ok (.iload_n 2, 1) := by decide +kernel
theorem dX0_run_178 : decode cX0_run 178 = .ok (.iconst 0, 1) := by decide +kernel
theorem dX0_run_179 : decode cX0_run 179 = .ok (.iload_n 3, 1) := by decide +kernel
theorem dX0_run_180 : decode cX0_run 180 = .ok (.iload 4, 2) := by decide +kernel
theorem dX0_run_182 : decode cX0_run 182 = .ok (.invokevirtual 37, 3) := by decide +kernel
theorem dX0_run_185 : decode cX0_run 185 = .ok (.iconst 2, 1) := by decide +kernel
theorem dX0_run_186 : decode cX0_run 186 = .ok (.imul, 1) := by decide +kernel
theorem dX0_run_187 : decode cX0_run 187 = .ok (.ireturn, 1) := by decide +kernel
theorem dX0_run_188 : decode cX0_run 188 = .ok (.iload_n 3, 1) := by decide +kernel
theorem dX0_run_189 : decode cX0_run 189 = .ok (.iload_n 2, 1) := by decide +kernel
theorem dX0_run_190 : decode cX0_run 190 = .ok (.ixor, 1) := by decide +kernel
theorem dX0_run_191 : decode cX0_run 191 = .ok (.ireturn, 1) := by decide +kernel
theorem dX0_run_192 : decode cX0_run 192 = .ok (.aload_n 0, 1) := by decide +kernel
theorem dX0_run_193 : decode cX0_run 193 = .ok (.iconst 1, 1) := by decide +kernel
theorem dX0_run_194 : decode cX0_run 194 = .ok (.iload_n 2, 1) := by decide +kernel
theorem dX0_run_195 : decode cX0_run 195 = .ok (.iconst 0, 1) := by decide +kernel
theorem dX0_run_196 : decode cX0_run 196 = .ok (.iload_n 3, 1) := by decide +kernel
theorem dX0_run_197 : decode cX0_run 197 = .ok (.iload 4, 2) := by decide +kernel
theorem dX0_run_199 : decode cX0_run 199 = .ok (.invokevirtual 40, 3) := by decide +kernel
theorem dX0_run_202 : decode cX0_run 202 = .ok (.iconst 3, 1) := by decide +kernel
theorem dX0_run_203 : decode cX0_run 203 = .ok (.iadd, 1) := by decide +kernel
theorem dX0_run_204 : decode cX0_run 204 = .ok (.ireturn, 1) := by decide +kernel
theorem dX0_run_205 : decode cX0_run 205 = .ok (.aload_n 0, 1) := by decide +kernel
theorem dX0_run_206 : decode cX0_run 206 = .ok (.iconst 2, 1) := by decide +kernel
theorem dX0_run_207 : decode cX0_run 207 = .ok (.iload_n 2, 1) := by decide +kernel
theorem dX0_run_208 : decode cX0_run 208 = .ok (.iconst 1, 1) := by decide +kernel
theorem dX0_run_209 : decode cX0_run 209 = .ok (.iload_n 3, 1) := by decide +kernel
theorem dX0_run_210 : decode cX0_run 210 = .ok (.iload 4, 2) := by decide +kernel
theorem dX0_run_212 : decode cX0_run 212 = .ok (.invokevirtual 40, 3) := by decide +kernel
theorem dX0_run_215 : decode cX0_run 215 = .ok (.ineg, 1) := by decide +kernel
theorem dX0_run_216 : decode cX0_run 216 = .ok (.ireturn, 1) := by decide +kernel
theorem dX0_run_217 : decode cX0_run 217 = .ok (.aload_n 0, 1) := by decide +kernel
theorem dX0_run_218 : decode cX0_run 218 = .ok (.iconst 3, 1) := by decide +kernel
theorem dX0_run_219 : decode cX0_run 219 = .ok (.iload_n 2, 1) := by decide +kernel
theorem dX0_run_220 : decode cX0_run 220 = .ok (.iconst 2, 1) := by decide +kernel
theorem dX0_run_221 : decode cX0_run 221 = .ok (.iload_n 3, 1) := by decide +kernel
theorem dX0_run_222 : decode cX0_run 222 = .ok (.iload 4, 2) := by decide +kernel
theorem dX0_run_224 : decode cX0_run 224 = .ok (.invokevirtual 40, 3) := by decide +kernel
theorem dX0_run_227 : decode cX0_run 227 = .ok (.iconst 3, 1) := by decide +kernel
theorem dX0_run_228 : decode cX0_run 228 = .ok (.imul, 1) := by decide +kernel
theorem dX0_run_229 : decode cX0_run 229 = .ok (.ireturn, 1) := by decide +kernel
theorem dX0_run_230 : decode cX0_run 230 = .ok (.aload_n 0, 1) := by decide +kernel
theorem dX0_run_231 : decode cX0_run 231 = .ok (.iconst 3, 1) := by decide +kernel
theorem dX0_run_232 : decode cX0_run 232 = .ok (.iload_n 2, 1) := by decide +kernel
theorem dX0_run_233 : decode cX0_run 233 = .ok (.iconst 1, 1) := by decide +kernel
theorem dX0_run_234 : decode cX0_run 234 = .ok (.iload_n 3, 1) := by decide +kernel
theorem dX0_run_235 : decode cX0_run 235 = .ok (.iconst 1, 1) := by decide +kernel
theorem dX0_run_236 : decode cX0_run 236 = .ok (.iadd, 1) := by decide +kernel
theorem dX0_run_237 : decode cX0_run 237 = .ok (.iload 4, 2) := by decide +kernel
theorem dX0_run_239 : decode cX0_run 239 = .ok (.invokevirtual 40, 3) := by decide +kernel
theorem dX0_run_242 : decode cX0_run 242 = .ok (.ireturn, 1) := by decide +kernel
theorem dX0_run_243 : decode cX0_run 243 = .ok (.aload_n 0, 1) := by decide +kernel
theorem dX0_run_244 : decode cX0_run 244 = .ok (.iconst 4, 1) := by decide +kernel
theorem dX0_run_245 : decode cX0_run 245 = .ok (.iload_n 2, 1) := by decide +kernel
theorem dX0_run_246 : decode cX0_run 246 = .ok (.iconst 3, 1) := by decide +kernel
theorem dX0_run_247 : decode cX0_run 247 = .ok (.iload_n 3, 1) := by decide +kernel
theorem dX0_run_248 : decode cX0_run 248 = .ok (.iload 4, 2) := by decide +kernel
theorem dX0_run_250 : decode cX0_run 250 = .ok (.invokevirtual 40, 3) := by decide +kernel
theorem dX0_run_253 : decode cX0_run 253 = .ok (.iconst 5, 1) := by decide +kernel
theorem dX0_run_254 : decode cX0_run 254 = .ok (.ixor, 1) := by decide +kernel
theorem dX0_run_255 : decode cX0_run 255 = .ok (.ireturn, 1) := by decide +kernel
theorem dX0_run_256 : decode cX0_run 256 = .ok (.aload_n 0, 1) := by decide +kernel
theorem dX0_run_257 : decode cX0_run 257 = .ok (.iconst 5, 1) := by decide +kernel
theorem dX0_run_258 : decode cX0_run 258 = .ok (.iload_n 2, 1) := by decide +kernel
theorem dX0_run_259 : decode cX0_run 259 = .ok (.iconst 2, 1) := by decide +kernel
theorem dX0_run_260 : decode cX0_run 260 = .ok (.iload_n 3, 1) := by decide +kernel
theorem dX0_run_261 : decode cX0_run 261 = .ok (.iload 4, 2) := by decide +kernel
theorem dX0_run_263 : decode cX0_run 263 = .ok (.invokevirtual 40, 3) := by decide +kernel
theorem dX0_run_266 : decode cX0_run 266 = .ok (.aload_n 0, 1) := by decide +kernel
theorem dX0_run_267 : decode cX0_run 267 = .ok (.iload_n 2, 1) := by decide +kernel
theorem dX0_run_268 : decode cX0_run 268 = .ok (.iconst 0, 1) := by decide +kernel
theorem dX0_run_269 : decode cX0_run 269 = .ok (.iconst 2, 1) := by decide +kernel
theorem dX0_run_270 : decode cX0_run 270 = .ok (.iload 4, 2) := by decide +kernel
theorem dX0_run_272 : decode cX0_run 272 = .ok (.invokevirtual 37, 3) := by decide +kernel
theorem dX0_run_275 : decode cX0_run 275 = .ok (.isub, 1) := by decide +kernel
theorem dX0_run_276 : decode cX0_run 276 = .ok (.ireturn, 1) := by decide +kernel
theorem dX0_run_277 : decode cX0_run 277 = .ok (.aload_n 0, 1) := by decide +kernel
theorem dX0_run_278 : decode cX0_run 278 = .ok (.iconst 5, 1) := by decide +kernel
theorem dX0_run_279 : decode cX0_run 279 = .ok (.iload_n 2, 1) := by decide +kernel
theorem dX0_run_280 : decode cX0_run 280 = .ok (.iconst 3, 1) := by decide +kernel
theorem dX0_run_281 : decode cX0_run 281 = .ok (.iload_n 3, 1) := by decide +kernel
theorem dX0_run_282 : decode cX0_run 282 = .ok (.iload 4, 2) := by decide +kernel
theorem dX0_run_284 : decode cX0_run 284 = .ok (.invokevirtual 40, 3) := by decide +kernel
theorem dX0_run_287 : decode cX0_run 287 = .ok (.iconst 1, 1) := by decide +kernel
theorem dX0_run_288 : decode cX0_run 288 = .ok (.iadd, 1) := by decide +kernel
theorem dX0_run_289 : decode cX0_run 289 = .ok (.ireturn, 1) := by decide +kernel
theorem dX0_run_290 : decode cX0_run 290 = .ok (.aload_n 0, 1) := by decide +kernel
theorem dX0_run_291 : decode cX0_run 291 = .ok (.bipush 6, 2) := by decide +kernel
theorem dX0_run_293 : decode cX0_run 293 = .ok (.iload_n 2, 1) := by decide +kernel
theorem dX0_run_294 : decode cX0_run 294 = .ok (.iconst 0, 1) := by decide +kernel
theorem dX0_run_295 : decode cX0_run 295 = .ok (.iload_n 3, 1) := by decide +kernel
theorem dX0_run_296 : decode cX0_run 296 = .ok (.iload 4, 2) := by decide +kernel
theorem dX0_run_298 : decode cX0_run 298 = .ok (.invokevirtual 40, 3) := by decide +kernel
theorem dX0_run_301 : decode cX0_run 301 = .ok (.iconst 2, 1) := by decide +kernel
theorem dX0_run_302 : decode cX0_run 302 = .ok (.imul, 1) := by decide +kernel
theorem dX0_run_303 : decode cX0_run 303 = .ok (.ireturn, 1) := by decide +kernel
theorem dX0_run_304 : decode cX0_run 304 = .ok (.aload_n 0, 1) := by decide +kernel
theorem dX0_run_305 : decode cX0_run 305 = .ok (.bipush 7, 2) := by decide +kernel
theorem dX0_run_307 : decode cX0_run 307 = .ok (.iload_n 2, 1) := by decide +kernel
theorem dX0_run_308 : decode cX0_run 308 = .ok (.iconst 1, 1) := by decide +kernel
theorem dX0_run_309 : decode cX0_run 309 = .ok (.iload_n 3, 1) := by decide +kernel
theorem dX0_run_310 : decode cX0_run 310 = .ok (.iload 4, 2) := by decide +kernel
theorem dX0_run_312 : decode cX0_run 312 = .ok (.invokevirtual 40, 3) := by decide +kernel
theorem dX0_run_315 : decode cX0_run 315 = .ok (.aload_n 0, 1) := by decide +kernel
theorem dX0_run_316 : decode cX0_run 316 = .ok (.iload_n 2, 1) := by decide +kernel
theorem dX0_run_317 : decode cX0_run 317 = .ok (.iconst 2, 1) := by decide +kernel
theorem dX0_run_318 : decode cX0_run 318 = .ok (.iconst 2, 1) := by decide +kernel
theorem dX0_run_319 : decode cX0_run 319 = .ok (.iload 4, 2) := by decide +kernel
theorem dX0_run_321 : decode cX0_run 321 = .ok (.invokevirtual 37, 3) := by decide +kernel
theorem dX0_run_324 : decode cX0_run 324 = .ok (.iadd, 1) := by decide +kernel
theorem dX0_run_325 : decode cX0_run 325 = .ok (.ireturn, 1) := by decide +kernel
theorem dX0_run_326 : decode cX0_run 326 = .ok (.aload_n 0, 1) := by decide +kernel
theorem dX0_run_327 : decode cX0_run 327 = .ok (.bipush 7, 2) := by decide +kernel
theorem dX0_run_329 : decode cX0_run 329 = .ok (.iload_n 2, 1) := by decide +kernel
theorem dX0_run_330 : decode cX0_run 330 = .ok (.iconst 0, 1) := by decide +kernel
theorem dX0_run_331 : decode cX0_run 331 = .ok (.iload_n 3, 1) := by decide +kernel
theorem dX0_run_332 : decode cX0_run 332 = .ok (.iload 4, 2) := by decide +kernel
theorem dX0_run_334 : decode cX0_run 334 = .ok (.invokevirtual 40, 3) := by decide +kernel
theorem dX0_run_337 : decode cX0_run 337 = .ok (.iconst 1, 1) := by decide +kernel
theorem dX0_run_338 : decode cX0_run 338 = .ok (.isub, 1) := by decide +kernel
theorem dX0_run_339 : decode cX0_run 339 = .ok (.ireturn, 1) := by decide +kernel
theorem dX0_run_340 : decode cX0_run 340 = .ok (.iconst 0, 1) := by decide +kernel
theorem dX0_run_341 : decode cX0_run 341 = .ok (.ireturn, 1) := by decide +kernel
theorem ok_yX0_runFrom : yOk yX0_runFrom 5 := ⟨by decide +kernel, by decide +kernel, by decide +kernel⟩
theorem ok_yX0_ofItsOwn : yOk yX0_ofItsOwn 4 := ⟨by decide +kernel, by decide +kernel, by decide +kernel⟩
theorem ok_yX0_fromAbove : yOk yX0_fromAbove 5 := ⟨by decide +kernel, by decide +kernel, by decide +kernel⟩
theorem ok_yX0_run : yOk yX0_run 4 := ⟨by decide +kernel, by decide +kernel, by decide +kernel⟩
def fX0_runFromg_6 (rc_run : Nat → St → Int32 → Int32 → Int32 → Int32 → Option (Int32 × St)) (n : Nat) : Nat → St → Int32 → Int32 → Int32 → Int32 → Int32 → Int32 → Option (Int32 × St)
  | 0, _, _, _, _, _, _, _ => none
  | k + 1, st, v2, v3, v4, v5, v6, v7 => if (8 : Int32) ≤ v7 then (some ((0 : Int32), st)) else (if v6 < 0 then (some ((0 : Int32), st)) else (gd (inB (((4 : Int32) * v6) + v3) 32) (bnd (tb tOWN (((4 : Int32) * v6) + v3).toNatClampNeg) (fun x4 => if x4 = 0 then (gd (inB v6 8) (bnd (tb tABOVE v6.toNatClampNeg) (fun x8 => bnd (v7 + (1 : Int32)) (fun x10 => fX0_runFromg_6 rc_run n k st v2 v3 v4 v5 x8 x10)))) else (if (20 : Int32) ≤ v5 then (some ((0 : Int32), st)) else ((rc_run n st x4 v2 v4 (v5 + (1 : Int32))).bind (fun r13 => some (r13.1, r13.2))))))))
set_option maxHeartbeats 4000000 in
theorem tX0_runFromg_6 {p : Program} {l : Launch} {e : Env} {s : State} {m : MethodId} {args : Array Value} {below : List Frame} {meth : Method} {c : Code} {X : WX} (C : Amb 65 X p s m args meth c cX0_runFrom 9 RX0) (hr : meth.sig.returnType = some .int) {R : Int32 × St} {n : Nat} {FB LB RF RL : Nat} (hRF : FB + 1 ≤ RF) (hRL : LB + 24 ≤ RL) {rc_run : Nat → St → Int32 → Int32 → Int32 → Int32 → Option (Int32 × St)} (hr_run : ∀ (n : Nat) (st : St) (a1 : Int32) (a2 : Int32) (a3 : Int32) (a4 : Int32) (R : Int32 × St), rc_run n st a1 a2 a3 a4 = some R → CtI l yX0_run cX0_run 5 .int ({ frames := FB, cells := 0, slots := 0, locals := LB }) EC 65 X [.ref (xq X 49), .int a1, .int a2, .int a3, .int a4] st R.1 R.2) : ∀ (k : Nat) (st : St) (v2 : Int32) (v3 : Int32) (v4 : Int32) (v5 : Int32) (v6 : Int32) (v7 : Int32) (H : Heap) (locs : List Loc) (ls : Array Slot), Wd EC 65 X s.heap st H locs → lv_has ls 9 [(0, .ref (xq X 49)), (2, .int v2), (3, .int v3), (4, .int v4), (5, .int v5), (6, .int v6), (7, .int v7)] → fX0_runFromg_6 rc_run n k st v2 v3 v4 v5 v6 v7 = some R → W p l e { frames := RF, cells := 0, slots := 0, locals := RL } s m args below meth c H locs 0 0 (QI EC 65 X R.1 R.2 below args s) (F0 m 6 ls []) := by
  obtain ⟨hx, hb, hml, hown, hts⟩ := id C.1
  intro k
  induction k with
  | zero => intro st v2 v3 v4 v5 v6 v7 H locs ls  hw hl hf; exact absurd (show none = some R from hf) (fun z => by cases z)
  | succ k ih =>
    intro st v2 v3 v4 v5 v6 v7 H locs ls  hw hl hf
    rw [fX0_runFromg_6] at hf
    refine lv_iload hx hb dX0_runFrom_6 (lv_at hl 6 rfl) ?_
    refine lv_bipush (v := 8) hx hb dX0_runFrom_8 (by decide) ?_
    refine lv_icmp_ge (tgt := 74) hx hb dX0_runFrom_10 (by decide) (fun c1 => ?_) (fun c1 => ?_)
    · replace hf := ite_t hf c1
      refine lv_iconst (v := 0) hx hb dX0_runFrom_74 (by decide) ?_
      exact w_iret C hw hr (so2 hf).1 (so2 hf).2 dX0_runFrom_75
    · replace hf := ite_f hf c1
      refine lv_iload hx hb dX0_runFrom_13 (lv_at hl 5 rfl) ?_
      refine lv_if_lt (tgt := 74) hx hb dX0_runFrom_15 (by decide) (fun c2 => ?_) (fun c2 => ?_)
      · replace hf := ite_t hf c2
        refine lv_iconst (v := 0) hx hb dX0_runFrom_74 (by decide) ?_
        exact w_iret C hw hr (so2 hf).1 (so2 hf).2 dX0_runFrom_75
      · replace hf := ite_f hf c2
        refine w_gets C hw C.2.2.1.2.2.2.2 kf_X0_27 dX0_runFrom_18 ?_
        refine lv_iconst (v := 4) hx hb dX0_runFrom_21 (by decide) ?_
        refine lv_iload hx hb dX0_runFrom_22 (lv_at hl 5 rfl) ?_
        refine lv_imul hx hb dX0_runFrom_24 ?_
        refine lv_iload_n hx hb dX0_runFrom_25 rfl (lv_at hl 2 rfl) ?_
        refine lv_iadd hx hb dX0_runFrom_26 ?_
        obtain ⟨h3, hf⟩ := gd_some hf
        refine w_tald C hw C.2.2.1.2.2.2.2 h3 rfl dX0_runFrom_27 ?_
        refine lv_topi (fun x4 e5 => ?_)
        replace hf := bnd_nm hf e5
        refine lv_istore (lv' := [(8, .int x4), (0, .ref (xq X 49)), (2, .int v2), (3, .int v3), (4, .int v4), (5, .int v5), (6, .int v6), (7, .int v7)]) hx hb dX0_runFrom_28 hl (by decide) rfl (fun ls hl => ?_)
        refine lv_iload hx hb dX0_runFrom_30 (lv_at hl 0 rfl) ?_
        refine lv_if_eq (tgt := 60) hx hb dX0_runFrom_32 (by decide) (fun c6 => ?_) (fun c6 => ?_)
        · replace hf := ite_t hf c6
          refine w_gets C hw C.2.2.1.2.2.2.1 kf_X0_20 dX0_runFrom_60 ?_
          refine lv_iload hx hb dX0_runFrom_63 (lv_at hl 6 rfl) ?_
          obtain ⟨h7, hf⟩ := gd_some hf
          refine w_tald C hw C.2.2.1.2.2.2.1 h7 rfl dX0_runFrom_65 ?_
          refine lv_topi (fun x8 e9 => ?_)
          replace hf := bnd_nm hf e9
          refine lv_istore (lv' := [(6, .int x8), (8, .int x4), (0, .ref (xq X 49)), (2, .int v2), (3, .int v3), (4, .int v4), (5, .int v5), (7, .int v7)]) hx hb dX0_runFrom_66 hl (by decide) rfl (fun ls hl => ?_)
          obtain ⟨x10, e11⟩ : ∃ z : Int32, z = v7 + (1 : Int32) := ⟨_, rfl⟩
          replace hf := bnd_nm hf e11
          refine lv_iinc (v := x10) (lv' := [(7, .int x10), (6, .int x8), (8, .int x4), (0, .ref (xq X 49)), (2, .int v2), (3, .int v3), (4, .int v4), (5, .int v5)]) hx hb dX0_runFrom_68 hl (k := 7) rfl (by rw [e11]; rfl) (by decide) rfl (fun ls hl => ?_)
          refine lv_goto (tgt := 6) hx hb dX0_runFrom_71 (by decide) ?_
          exact ih st v2 v3 v4 v5 x8 x10 _ _ _ hw (lv_sub hl [3, 4, 5, 6, 7, 1, 0] rfl) hf
        · replace hf := ite_f hf c6
          refine lv_iload hx hb dX0_runFrom_35 (lv_at hl 5 rfl) ?_
          refine lv_bipush (v := 20) hx hb dX0_runFrom_37 (by decide) ?_
          refine lv_icmp_ge (tgt := 58) hx hb dX0_runFrom_39 (by decide) (fun c12 => ?_) (fun c12 => ?_)
          · replace hf := ite_t hf c12
            refine lv_iconst (v := 0) hx hb dX0_runFrom_58 (by decide) ?_
            exact w_iret C hw hr (so2 hf).1 (so2 hf).2 dX0_runFrom_59
          · replace hf := ite_f hf c12
            refine lv_aload_n hx hb dX0_runFrom_42 rfl (lv_at hl 1 rfl) ?_
            refine lv_iload hx hb dX0_runFrom_43 (lv_at hl 0 rfl) ?_
            refine lv_iload_n hx hb dX0_runFrom_45 rfl (lv_at hl 2 rfl) ?_
            refine lv_iload hx hb dX0_runFrom_46 (lv_at hl 4 rfl) ?_
            refine lv_iload hx hb dX0_runFrom_48 (lv_at hl 5 rfl) ?_
            refine lv_iconst (v := 1) hx hb dX0_runFrom_50 (by decide) ?_
            refine lv_iadd hx hb dX0_runFrom_51 ?_
            obtain ⟨r13, k14, hf⟩ := bd_some hf
            refine w_goI hw (w_runV (rest := []) C hw (hr_run n st x4 v2 v4 (v5 + (1 : Int32)) r13 k14) (by decide) (EC_49 X _ _) rfl km_X0_30 ki_yX0_run kv_X0_run kz_X0 kc_X0_run rfl ok_yX0_run ⟨by dsimp only; omega, by dsimp only; omega⟩ rfl rfl rfl rfl hl.1 (Nat.le_of_ble_eq_true rfl) dX0_runFrom_52 ⟨Nat.zero_le _, Nat.zero_le _⟩) (fun H locs hw => ?_)
            refine lv_goto (tgt := 59) hx hb dX0_runFrom_55 (by decide) ?_
            exact w_iret C hw hr (so2 hf).1 (so2 hf).2 dX0_runFrom_59
def fX0_runFromg (rc_run : Nat → St → Int32 → Int32 → Int32 → Int32 → Option (Int32 × St)) (n : Nat) (st : St) (a1 : Int32) (a2 : Int32) (a3 : Int32) (a4 : Int32) (a5 : Int32) : Option (Int32 × St) := fX0_runFromg_6 rc_run n n st a2 a3 a4 a5 a1 (0 : Int32)
set_option maxHeartbeats 4000000 in
theorem zX0_runFromg (l : Launch) (X : WX) {FB LB RF RL : Nat} (hRF : FB + 1 ≤ RF) (hRL : LB + 24 ≤ RL) {rc_run : Nat → St → Int32 → Int32 → Int32 → Int32 → Option (Int32 × St)} (hr_run : ∀ (n : Nat) (st : St) (a1 : Int32) (a2 : Int32) (a3 : Int32) (a4 : Int32) (R : Int32 × St), rc_run n st a1 a2 a3 a4 = some R → CtI l yX0_run cX0_run 5 .int ({ frames := FB, cells := 0, slots := 0, locals := LB }) EC 65 X [.ref (xq X 49), .int a1, .int a2, .int a3, .int a4] st R.1 R.2) (n : Nat) (st : St) (a1 : Int32) (a2 : Int32) (a3 : Int32) (a4 : Int32) (a5 : Int32) (R : Int32 × St) (hf : fX0_runFromg rc_run n st a1 a2 a3 a4 a5 = some R) : CtI l yX0_runFrom cX0_runFrom 9 .int ({ frames := RF, cells := 0, slots := 0, locals := RL }) EC 65 X [.ref (xq X 49), .int a1, .int a2, .int a3, .int a4, .int a5] st R.1 R.2 := by
  refine ct_in (own := RX0) (by decide +kernel) rfl (Nat.le_of_ble_eq_true rfl) (fun p e s m below meth c C hr hw ls hl => ?_)
  obtain ⟨hx, hb, hml, hown, hts⟩ := id C.1
  have hl : lv_has ls 9 [(0, .ref (xq X 49)), (1, .int a1), (2, .int a2), (3, .int a3), (4, .int a4), (5, .int a5)] := hl
  unfold fX0_runFromg at hf
  refine lv_iload_n hx hb dX0_runFrom_0 rfl (lv_at hl 1 rfl) ?_
  refine lv_istore (lv' := [(6, .int a1), (0, .ref (xq X 49)), (1, .int a1), (2, .int a2), (3, .int a3), (4, .int a4), (5, .int a5)]) hx hb dX0_runFrom_1 hl (by decide) rfl (fun ls hl => ?_)
  refine lv_iconst (v := 0) hx hb dX0_runFrom_3 (by decide) ?_
  refine lv_istore (lv' := [(7, .int (0 : Int32)), (6, .int a1), (0, .ref (xq X 49)), (1, .int a1), (2, .int a2), (3, .int a3), (4, .int a4), (5, .int a5)]) hx hb dX0_runFrom_4 hl (by decide) rfl (fun ls hl => ?_)
  exact tX0_runFromg_6 C hr hRF hRL hr_run n st a2 a3 a4 a5 a1 (0 : Int32) _ _ _ hw (lv_sub hl [2, 4, 5, 6, 7, 1, 0] rfl) hf
def fX0_ofItsOwng (rc_run : Nat → St → Int32 → Int32 → Int32 → Int32 → Option (Int32 × St)) (n : Nat) (st : St) (a1 : Int32) (a2 : Int32) (a3 : Int32) (a4 : Int32) : Option (Int32 × St) := gd (inB a1 50) ((fX0_runFromg rc_run n st (gI st 50 a1.toNatClampNeg) a1 a2 a3 a4).bind (fun r2 => some (r2.1, r2.2)))
set_option maxHeartbeats 4000000 in
theorem zX0_ofItsOwng (l : Launch) (X : WX) {FB LB RF RL : Nat} (hRF : FB + 2 ≤ RF) (hRL : LB + 52 ≤ RL) {rc_run : Nat → St → Int32 → Int32 → Int32 → Int32 → Option (Int32 × St)} (hr_run : ∀ (n : Nat) (st : St) (a1 : Int32) (a2 : Int32) (a3 : Int32) (a4 : Int32) (R : Int32 × St), rc_run n st a1 a2 a3 a4 = some R → CtI l yX0_run cX0_run 5 .int ({ frames := FB, cells := 0, slots := 0, locals := LB }) EC 65 X [.ref (xq X 49), .int a1, .int a2, .int a3, .int a4] st R.1 R.2) (n : Nat) (st : St) (a1 : Int32) (a2 : Int32) (a3 : Int32) (a4 : Int32) (R : Int32 × St) (hf : fX0_ofItsOwng rc_run n st a1 a2 a3 a4 = some R) : CtI l yX0_ofItsOwn cX0_ofItsOwn 5 .int ({ frames := RF, cells := 0, slots := 0, locals := RL }) EC 65 X [.ref (xq X 49), .int a1, .int a2, .int a3, .int a4] st R.1 R.2 := by
  refine ct_in (own := RX0) (by decide +kernel) rfl (Nat.le_of_ble_eq_true rfl) (fun p e s m below meth c C hr hw ls hl => ?_)
  obtain ⟨hx, hb, hml, hown, hts⟩ := id C.1
  have hl : lv_has ls 5 [(0, .ref (xq X 49)), (1, .int a1), (2, .int a2), (3, .int a3), (4, .int a4)] := hl
  unfold fX0_ofItsOwng at hf
  refine lv_aload_n hx hb dX0_ofItsOwn_0 rfl (lv_at hl 0 rfl) ?_
  refine lv_aload_n hx hb dX0_ofItsOwn_1 rfl (lv_at hl 0 rfl) ?_
  refine w_get (T := TX0) C hw (by decide) 0 kf_X0_9 (EC_49 X _ _) rfl inA0 (by decide) rfl dX0_ofItsOwn_2 ?_
  refine lv_iload_n hx hb dX0_ofItsOwn_5 rfl (lv_at hl 1 rfl) ?_
  obtain ⟨h1, hf⟩ := gd_some hf
  refine w_iald C hw (by decide) (EC_50 X _ _) h1 rfl dX0_ofItsOwn_6 ?_
  refine lv_iload_n hx hb dX0_ofItsOwn_7 rfl (lv_at hl 1 rfl) ?_
  refine lv_iload_n hx hb dX0_ofItsOwn_8 rfl (lv_at hl 2 rfl) ?_
  refine lv_iload_n hx hb dX0_ofItsOwn_9 rfl (lv_at hl 3 rfl) ?_
  refine lv_iload hx hb dX0_ofItsOwn_10 (lv_at hl 4 rfl) ?_
  obtain ⟨r2, k3, hf⟩ := bd_some hf
  refine w_goI hw (w_runV (rest := []) C hw (zX0_runFromg _ _ (Nat.le_refl _) (Nat.le_refl _) hr_run n st (gI st 50 a1.toNatClampNeg) a1 a2 a3 a4 r2 k3) (by decide) (EC_49 X _ _) rfl km_X0_23 ki_yX0_runFrom kv_X0_runFrom kz_X0 kc_X0_runFrom rfl ok_yX0_runFrom ⟨by dsimp only; omega, by dsimp only; omega⟩ rfl rfl rfl rfl hl.1 (Nat.le_of_ble_eq_true rfl) dX0_ofItsOwn_12 ⟨Nat.zero_le _, Nat.zero_le _⟩) (fun H locs hw => ?_)
  exact w_iret C hw hr (so2 hf).1 (so2 hf).2 dX0_ofItsOwn_15
def fX0_fromAboveg (rc_run : Nat → St → Int32 → Int32 → Int32 → Int32 → Option (Int32 × St)) (n : Nat) (st : St) (a1 : Int32) (a2 : Int32) (a3 : Int32) (a4 : Int32) (a5 : Int32) : Option (Int32 × St) := gd (inB a1 8) ((fX0_runFromg rc_run n st (tb tABOVE a1.toNatClampNeg) a2 a3 a4 a5).bind (fun r2 => some (r2.1, r2.2)))
set_option maxHeartbeats 4000000 in
theorem zX0_fromAboveg (l : Launch) (X : WX) {FB LB RF RL : Nat} (hRF : FB + 2 ≤ RF) (hRL : LB + 52 ≤ RL) {rc_run : Nat → St → Int32 → Int32 → Int32 → Int32 → Option (Int32 × St)} (hr_run : ∀ (n : Nat) (st : St) (a1 : Int32) (a2 : Int32) (a3 : Int32) (a4 : Int32) (R : Int32 × St), rc_run n st a1 a2 a3 a4 = some R → CtI l yX0_run cX0_run 5 .int ({ frames := FB, cells := 0, slots := 0, locals := LB }) EC 65 X [.ref (xq X 49), .int a1, .int a2, .int a3, .int a4] st R.1 R.2) (n : Nat) (st : St) (a1 : Int32) (a2 : Int32) (a3 : Int32) (a4 : Int32) (a5 : Int32) (R : Int32 × St) (hf : fX0_fromAboveg rc_run n st a1 a2 a3 a4 a5 = some R) : CtI l yX0_fromAbove cX0_fromAbove 6 .int ({ frames := RF, cells := 0, slots := 0, locals := RL }) EC 65 X [.ref (xq X 49), .int a1, .int a2, .int a3, .int a4, .int a5] st R.1 R.2 := by
  refine ct_in (own := RX0) (by decide +kernel) rfl (Nat.le_of_ble_eq_true rfl) (fun p e s m below meth c C hr hw ls hl => ?_)
  obtain ⟨hx, hb, hml, hown, hts⟩ := id C.1
  have hl : lv_has ls 6 [(0, .ref (xq X 49)), (1, .int a1), (2, .int a2), (3, .int a3), (4, .int a4), (5, .int a5)] := hl
  unfold fX0_fromAboveg at hf
  refine lv_aload_n hx hb dX0_fromAbove_0 rfl (lv_at hl 0 rfl) ?_
  refine w_gets C hw C.2.2.1.2.2.2.1 kf_X0_20 dX0_fromAbove_1 ?_
  refine lv_iload_n hx hb dX0_fromAbove_4 rfl (lv_at hl 1 rfl) ?_
  obtain ⟨h1, hf⟩ := gd_some hf
  refine w_tald C hw C.2.2.1.2.2.2.1 h1 rfl dX0_fromAbove_5 ?_
  refine lv_iload_n hx hb dX0_fromAbove_6 rfl (lv_at hl 2 rfl) ?_
  refine lv_iload_n hx hb dX0_fromAbove_7 rfl (lv_at hl 3 rfl) ?_
  refine lv_iload hx hb dX0_fromAbove_8 (lv_at hl 4 rfl) ?_
  refine lv_iload hx hb dX0_fromAbove_10 (lv_at hl 5 rfl) ?_
  obtain ⟨r2, k3, hf⟩ := bd_some hf
  refine w_goI hw (w_runV (rest := []) C hw (zX0_runFromg _ _ (Nat.le_refl _) (Nat.le_refl _) hr_run n st (tb tABOVE a1.toNatClampNeg) a2 a3 a4 a5 r2 k3) (by decide) (EC_49 X _ _) rfl km_X0_23 ki_yX0_runFrom kv_X0_runFrom kz_X0 kc_X0_runFrom rfl ok_yX0_runFrom ⟨by dsimp only; omega, by dsimp only; omega⟩ rfl rfl rfl rfl hl.1 (Nat.le_of_ble_eq_true rfl) dX0_fromAbove_12 ⟨Nat.zero_le _, Nat.zero_le _⟩) (fun H locs hw => ?_)
  exact w_iret C hw hr (so2 hf).1 (so2 hf).2 dX0_fromAbove_15
def fX0_rung_19 (rc_run : Nat → St → Int32 → Int32 → Int32 → Int32 → Option (Int32 × St)) (n : Nat) (st : St) (v1 : Int32) (v2 : Int32) (v3 : Int32) (v4 : Int32) : Option (Int32 × St) := bnd (sI st 49 3 ((gI st 49 3) + (1 : Int32))) (fun st5 => if v1 = 1 then (some ((v3 + v2), st5)) else (if v1 = 2 then ((fX0_ofItsOwng rc_run n st5 v2 (1 : Int32) v3 v4).bind (fun r9 => (fX0_ofItsOwng rc_run n r9.2 v2 (2 : Int32) (1 : Int32) v4).bind (fun r11 => some ((r9.1 - r11.1), r11.2)))) else (if v1 = 10 then ((fX0_ofItsOwng rc_run n st5 v2 (0 : Int32) v3 v4).bind (fun r14 => some ((r14.1 * (2 : Int32)), r14.2))) else (if v1 = 11 then (some ((v3 ^^^ v2), st5)) else (if v1 = 20 then ((fX0_fromAboveg rc_run n st5 (1 : Int32) v2 (0 : Int32) v3 v4).bind (fun r18 => some ((r18.1 + (3 : Int32)), r18.2))) else (if v1 = 30 then ((fX0_fromAboveg rc_run n st5 (2 : Int32) v2 (1 : Int32) v3 v4).bind (fun r21 => some ((-r21.1), r21.2))) else (if v1 = 40 then ((fX0_fromAboveg rc_run n st5 (3 : Int32) v2 (2 : Int32) v3 v4).bind (fun r24 => some ((r24.1 * (3 : Int32)), r24.2))) else (if v1 = 41 then ((fX0_fromAboveg rc_run n st5 (3 : Int32) v2 (1 : Int32) (v3 + (1 : Int32)) v4).bind (fun r27 => some (r27.1, r27.2))) else (if v1 = 50 then ((fX0_fromAboveg rc_run n st5 (4 : Int32) v2 (3 : Int32) v3 v4).bind (fun r30 => some ((r30.1 ^^^ (5 : Int32)), r30.2))) else (if v1 = 60 then ((fX0_fromAboveg rc_run n st5 (5 : Int32) v2 (2 : Int32) v3 v4).bind (fun r33 => (fX0_ofItsOwng rc_run n r33.2 v2 (0 : Int32) (2 : Int32) v4).bind (fun r35 => some ((r33.1 - r35.1), r35.2)))) else (if v1 = 61 then ((fX0_fromAboveg rc_run n st5 (5 : Int32) v2 (3 : Int32) v3 v4).bind (fun r38 => some ((r38.1 + (1 : Int32)), r38.2))) else (if v1 = 70 then ((fX0_fromAboveg rc_run n st5 (6 : Int32) v2 (0 : Int32) v3 v4).bind (fun r41 => some ((r41.1 * (2 : Int32)), r41.2))) else (if v1 = 80 then ((fX0_fromAboveg rc_run n st5 (7 : Int32) v2 (1 : Int32) v3 v4).bind (fun r44 => (fX0_ofItsOwng rc_run n r44.2 v2 (2 : Int32) (2 : Int32) v4).bind (fun r46 => some ((r44.1 + r46.1), r46.2)))) else (if v1 = 81 then ((fX0_fromAboveg rc_run n st5 (7 : Int32) v2 (0 : Int32) v3 v4).bind (fun r49 => some ((r49.1 - (1 : Int32)), r49.2))) else (some ((0 : Int32), st5))))))))))))))))
set_option maxHeartbeats 4000000 in
theorem tX0_rung_19 {p : Program} {l : Launch} {e : Env} {s : State} {m : MethodId} {args : Array Value} {below : List Frame} {meth : Method} {c : Code} {X : WX} (C : Amb 65 X p s m args meth c cX0_run 5 RX0) (hr : meth.sig.returnType = some .int) {R : Int32 × St} {n : Nat} {FB LB RF RL : Nat} (hRF : FB + 3 ≤ RF) (hRL : LB + 77 ≤ RL) {rc_run : Nat → St → Int32 → Int32 → Int32 → Int32 → Option (Int32 × St)} (hr_run : ∀ (n : Nat) (st : St) (a1 : Int32) (a2 : Int32) (a3 : Int32) (a4 : Int32) (R : Int32 × St), rc_run n st a1 a2 a3 a4 = some R → CtI l yX0_run cX0_run 5 .int ({ frames := FB, cells := 0, slots := 0, locals := LB }) EC 65 X [.ref (xq X 49), .int a1, .int a2, .int a3, .int a4] st R.1 R.2) : ∀ (st : St) (v1 : Int32) (v2 : Int32) (v3 : Int32) (v4 : Int32) (H : Heap) (locs : List Loc) (ls : Array Slot), Wd EC 65 X s.heap st H locs → lv_has ls 5 [(0, .ref (xq X 49)), (1, .int v1), (2, .int v2), (3, .int v3), (4, .int v4)] → fX0_rung_19 rc_run n st v1 v2 v3 v4 = some R → W p l e { frames := RF, cells := 0, slots := 0, locals := RL } s m args below meth c H locs 0 0 (QI EC 65 X R.1 R.2 below args s) (F0 m 19 ls []) := by
  obtain ⟨hx, hb, hml, hown, hts⟩ := id C.1
  intro st v1 v2 v3 v4 H locs ls  hw hl hf
  unfold fX0_rung_19 at hf
  refine lv_aload_n hx hb dX0_run_19 rfl (lv_at hl 0 rfl) ?_
  refine lv_dup hx hb dX0_run_20 rfl ?_
  refine w_get (T := TX0) C hw (by decide) 3 kf_X0_34 (EC_49 X _ _) rfl inA0 (by decide) rfl dX0_run_21 ?_
  refine lv_iconst (v := 1) hx hb dX0_run_24 (by decide) ?_
  refine lv_iadd hx hb dX0_run_25 ?_
  obtain ⟨st5, es6⟩ : ∃ z : St, z = sI st 49 3 ((gI st 49 3) + (1 : Int32)) := ⟨_, rfl⟩
  replace hf := bnd_nm hf es6
  refine w_puti (T := TX0) C hw (by decide) 3 kf_X0_34 (EC_49 X _ _) rfl inA0 tyX0_ok nmX0 (by decide) rfl rfl (Nat.le_of_ble_eq_true rfl) rfl dX0_run_26 (fun H locs hw => ?_)
  rw [← es6] at hw
  refine lv_iload_n hx hb dX0_run_29 rfl (lv_at hl 1 rfl) ?_
  by_cases c7 : v1 = 1
  · replace hf := ite_t hf c7
    refine lv_lookup (tgt := 152) (off := 122) hx hb dX0_run_30 (by decide) (by rw [c7] <;> rfl) (by decide) ?_
    refine lv_iload_n hx hb dX0_run_152 rfl (lv_at hl 3 rfl) ?_
    refine lv_iload_n hx hb dX0_run_153 rfl (lv_at hl 2 rfl) ?_
    refine lv_iadd hx hb dX0_run_154 ?_
    exact w_iret C hw hr (so2 hf).1 (so2 hf).2 dX0_run_155
  · replace hf := ite_f hf c7
    by_cases c8 : v1 = 2
    · replace hf := ite_t hf c8
      refine lv_lookup (tgt := 156) (off := 126) hx hb dX0_run_30 (by decide) (by rw [c8] <;> rfl) (by decide) ?_
      refine lv_aload_n hx hb dX0_run_156 rfl (lv_at hl 0 rfl) ?_
      refine lv_iload_n hx hb dX0_run_157 rfl (lv_at hl 2 rfl) ?_
      refine lv_iconst (v := 1) hx hb dX0_run_158 (by decide) ?_
      refine lv_iload_n hx hb dX0_run_159 rfl (lv_at hl 3 rfl) ?_
      refine lv_iload hx hb dX0_run_160 (lv_at hl 4 rfl) ?_
      obtain ⟨r9, k10, hf⟩ := bd_some hf
      refine w_goI hw (w_runV (rest := []) C hw (zX0_ofItsOwng _ _ (Nat.le_refl _) (Nat.le_refl _) hr_run n st5 v2 (1 : Int32) v3 v4 r9 k10) (by decide) (EC_49 X _ _) rfl km_X0_37 ki_yX0_ofItsOwn kv_X0_ofItsOwn kz_X0 kc_X0_ofItsOwn rfl ok_yX0_ofItsOwn ⟨by dsimp only; omega, by dsimp only; omega⟩ rfl rfl rfl rfl hl.1 (Nat.le_of_ble_eq_true rfl) dX0_run_162 ⟨Nat.zero_le _, Nat.zero_le _⟩) (fun H locs hw => ?_)
      refine lv_aload_n hx hb dX0_run_165 rfl (lv_at hl 0 rfl) ?_
      refine lv_iload_n hx hb dX0_run_166 rfl (lv_at hl 2 rfl) ?_
      refine lv_iconst (v := 2) hx hb dX0_run_167 (by decide) ?_
      refine lv_iconst (v := 1) hx hb dX0_run_168 (by decide) ?_
      refine lv_iload hx hb dX0_run_169 (lv_at hl 4 rfl) ?_
      obtain ⟨r11, k12, hf⟩ := bd_some hf
      refine w_goI hw (w_runV (rest := [.int r9.1]) C hw (zX0_ofItsOwng _ _ (Nat.le_refl _) (Nat.le_refl _) hr_run n r9.2 v2 (2 : Int32) (1 : Int32) v4 r11 k12) (by decide) (EC_49 X _ _) rfl km_X0_37 ki_yX0_ofItsOwn kv_X0_ofItsOwn kz_X0 kc_X0_ofItsOwn rfl ok_yX0_ofItsOwn ⟨by dsimp only; omega, by dsimp only; omega⟩ rfl rfl rfl rfl hl.1 (Nat.le_of_ble_eq_true rfl) dX0_run_171 ⟨Nat.zero_le _, Nat.zero_le _⟩) (fun H locs hw => ?_)
      refine lv_isub hx hb dX0_run_174 ?_
      exact w_iret C hw hr (so2 hf).1 (so2 hf).2 dX0_run_175
    · replace hf := ite_f hf c8
      by_cases c13 : v1 = 10
      · replace hf := ite_t hf c13
        refine lv_lookup (tgt := 176) (off := 146) hx hb dX0_run_30 (by decide) (by rw [c13] <;> rfl) (by decide) ?_
        refine lv_aload_n hx hb dX0_run_176 rfl (lv_at hl 0 rfl) ?_
        refine lv_iload_n hx hb dX0_run_177 rfl (lv_at hl 2 rfl) ?_
        refine lv_iconst (v := 0) hx hb dX0_run_178 (by decide) ?_
        refine lv_iload_n hx hb dX0_run_179 rfl (lv_at hl 3 rfl) ?_
        refine lv_iload hx hb dX0_run_180 (lv_at hl 4 rfl) ?_
        obtain ⟨r14, k15, hf⟩ := bd_some hf
        refine w_goI hw (w_runV (rest := []) C hw (zX0_ofItsOwng _ _ (Nat.le_refl _) (Nat.le_refl _) hr_run n st5 v2 (0 : Int32) v3 v4 r14 k15) (by decide) (EC_49 X _ _) rfl km_X0_37 ki_yX0_ofItsOwn kv_X0_ofItsOwn kz_X0 kc_X0_ofItsOwn rfl ok_yX0_ofItsOwn ⟨by dsimp only; omega, by dsimp only; omega⟩ rfl rfl rfl rfl hl.1 (Nat.le_of_ble_eq_true rfl) dX0_run_182 ⟨Nat.zero_le _, Nat.zero_le _⟩) (fun H locs hw => ?_)
        refine lv_iconst (v := 2) hx hb dX0_run_185 (by decide) ?_
        refine lv_imul hx hb dX0_run_186 ?_
        exact w_iret C hw hr (so2 hf).1 (so2 hf).2 dX0_run_187
      · replace hf := ite_f hf c13
        by_cases c16 : v1 = 11
        · replace hf := ite_t hf c16
          refine lv_lookup (tgt := 188) (off := 158) hx hb dX0_run_30 (by decide) (by rw [c16] <;> rfl) (by decide) ?_
          refine lv_iload_n hx hb dX0_run_188 rfl (lv_at hl 3 rfl) ?_
          refine lv_iload_n hx hb dX0_run_189 rfl (lv_at hl 2 rfl) ?_
          refine lv_ixor hx hb dX0_run_190 ?_
          exact w_iret C hw hr (so2 hf).1 (so2 hf).2 dX0_run_191
        · replace hf := ite_f hf c16
          by_cases c17 : v1 = 20
          · replace hf := ite_t hf c17
            refine lv_lookup (tgt := 192) (off := 162) hx hb dX0_run_30 (by decide) (by rw [c17] <;> rfl) (by decide) ?_
            refine lv_aload_n hx hb dX0_run_192 rfl (lv_at hl 0 rfl) ?_
            refine lv_iconst (v := 1) hx hb dX0_run_193 (by decide) ?_
            refine lv_iload_n hx hb dX0_run_194 rfl (lv_at hl 2 rfl) ?_
            refine lv_iconst (v := 0) hx hb dX0_run_195 (by decide) ?_
            refine lv_iload_n hx hb dX0_run_196 rfl (lv_at hl 3 rfl) ?_
            refine lv_iload hx hb dX0_run_197 (lv_at hl 4 rfl) ?_
            obtain ⟨r18, k19, hf⟩ := bd_some hf
            refine w_goI hw (w_runV (rest := []) C hw (zX0_fromAboveg _ _ (Nat.le_refl _) (Nat.le_refl _) hr_run n st5 (1 : Int32) v2 (0 : Int32) v3 v4 r18 k19) (by decide) (EC_49 X _ _) rfl km_X0_40 ki_yX0_fromAbove kv_X0_fromAbove kz_X0 kc_X0_fromAbove rfl ok_yX0_fromAbove ⟨by dsimp only; omega, by dsimp only; omega⟩ rfl rfl rfl rfl hl.1 (Nat.le_of_ble_eq_true rfl) dX0_run_199 ⟨Nat.zero_le _, Nat.zero_le _⟩) (fun H locs hw => ?_)
            refine lv_iconst (v := 3) hx hb dX0_run_202 (by decide) ?_
            refine lv_iadd hx hb dX0_run_203 ?_
            exact w_iret C hw hr (so2 hf).1 (so2 hf).2 dX0_run_204
          · replace hf := ite_f hf c17
            by_cases c20 : v1 = 30
            · replace hf := ite_t hf c20
              refine lv_lookup (tgt := 205) (off := 175) hx hb dX0_run_30 (by decide) (by rw [c20] <;> rfl) (by decide) ?_
              refine lv_aload_n hx hb dX0_run_205 rfl (lv_at hl 0 rfl) ?_
              refine lv_iconst (v := 2) hx hb dX0_run_206 (by decide) ?_
              refine lv_iload_n hx hb dX0_run_207 rfl (lv_at hl 2 rfl) ?_
              refine lv_iconst (v := 1) hx hb dX0_run_208 (by decide) ?_
              refine lv_iload_n hx hb dX0_run_209 rfl (lv_at hl 3 rfl) ?_
              refine lv_iload hx hb dX0_run_210 (lv_at hl 4 rfl) ?_
              obtain ⟨r21, k22, hf⟩ := bd_some hf
              refine w_goI hw (w_runV (rest := []) C hw (zX0_fromAboveg _ _ (Nat.le_refl _) (Nat.le_refl _) hr_run n st5 (2 : Int32) v2 (1 : Int32) v3 v4 r21 k22) (by decide) (EC_49 X _ _) rfl km_X0_40 ki_yX0_fromAbove kv_X0_fromAbove kz_X0 kc_X0_fromAbove rfl ok_yX0_fromAbove ⟨by dsimp only; omega, by dsimp only; omega⟩ rfl rfl rfl rfl hl.1 (Nat.le_of_ble_eq_true rfl) dX0_run_212 ⟨Nat.zero_le _, Nat.zero_le _⟩) (fun H locs hw => ?_)
              refine lv_ineg hx hb dX0_run_215 ?_
              exact w_iret C hw hr (so2 hf).1 (so2 hf).2 dX0_run_216
            · replace hf := ite_f hf c20
              by_cases c23 : v1 = 40
              · replace hf := ite_t hf c23
                refine lv_lookup (tgt := 217) (off := 187) hx hb dX0_run_30 (by decide) (by rw [c23] <;> rfl) (by decide) ?_
                refine lv_aload_n hx hb dX0_run_217 rfl (lv_at hl 0 rfl) ?_
                refine lv_iconst (v := 3) hx hb dX0_run_218 (by decide) ?_
                refine lv_iload_n hx hb dX0_run_219 rfl (lv_at hl 2 rfl) ?_
                refine lv_iconst (v := 2) hx hb dX0_run_220 (by decide) ?_
                refine lv_iload_n hx hb dX0_run_221 rfl (lv_at hl 3 rfl) ?_
                refine lv_iload hx hb dX0_run_222 (lv_at hl 4 rfl) ?_
                obtain ⟨r24, k25, hf⟩ := bd_some hf
                refine w_goI hw (w_runV (rest := []) C hw (zX0_fromAboveg _ _ (Nat.le_refl _) (Nat.le_refl _) hr_run n st5 (3 : Int32) v2 (2 : Int32) v3 v4 r24 k25) (by decide) (EC_49 X _ _) rfl km_X0_40 ki_yX0_fromAbove kv_X0_fromAbove kz_X0 kc_X0_fromAbove rfl ok_yX0_fromAbove ⟨by dsimp only; omega, by dsimp only; omega⟩ rfl rfl rfl rfl hl.1 (Nat.le_of_ble_eq_true rfl) dX0_run_224 ⟨Nat.zero_le _, Nat.zero_le _⟩) (fun H locs hw => ?_)
                refine lv_iconst (v := 3) hx hb dX0_run_227 (by decide) ?_
                refine lv_imul hx hb dX0_run_228 ?_
                exact w_iret C hw hr (so2 hf).1 (so2 hf).2 dX0_run_229
              · replace hf := ite_f hf c23
                by_cases c26 : v1 = 41
                · replace hf := ite_t hf c26
                  refine lv_lookup (tgt := 230) (off := 200) hx hb dX0_run_30 (by decide) (by rw [c26] <;> rfl) (by decide) ?_
                  refine lv_aload_n hx hb dX0_run_230 rfl (lv_at hl 0 rfl) ?_
                  refine lv_iconst (v := 3) hx hb dX0_run_231 (by decide) ?_
                  refine lv_iload_n hx hb dX0_run_232 rfl (lv_at hl 2 rfl) ?_
                  refine lv_iconst (v := 1) hx hb dX0_run_233 (by decide) ?_
                  refine lv_iload_n hx hb dX0_run_234 rfl (lv_at hl 3 rfl) ?_
                  refine lv_iconst (v := 1) hx hb dX0_run_235 (by decide) ?_
                  refine lv_iadd hx hb dX0_run_236 ?_
                  refine lv_iload hx hb dX0_run_237 (lv_at hl 4 rfl) ?_
                  obtain ⟨r27, k28, hf⟩ := bd_some hf
                  refine w_goI hw (w_runV (rest := []) C hw (zX0_fromAboveg _ _ (Nat.le_refl _) (Nat.le_refl _) hr_run n st5 (3 : Int32) v2 (1 : Int32) (v3 + (1 : Int32)) v4 r27 k28) (by decide) (EC_49 X _ _) rfl km_X0_40 ki_yX0_fromAbove kv_X0_fromAbove kz_X0 kc_X0_fromAbove rfl ok_yX0_fromAbove ⟨by dsimp only; omega, by dsimp only; omega⟩ rfl rfl rfl rfl hl.1 (Nat.le_of_ble_eq_true rfl) dX0_run_239 ⟨Nat.zero_le _, Nat.zero_le _⟩) (fun H locs hw => ?_)
                  exact w_iret C hw hr (so2 hf).1 (so2 hf).2 dX0_run_242
                · replace hf := ite_f hf c26
                  by_cases c29 : v1 = 50
                  · replace hf := ite_t hf c29
                    refine lv_lookup (tgt := 243) (off := 213) hx hb dX0_run_30 (by decide) (by rw [c29] <;> rfl) (by decide) ?_
                    refine lv_aload_n hx hb dX0_run_243 rfl (lv_at hl 0 rfl) ?_
                    refine lv_iconst (v := 4) hx hb dX0_run_244 (by decide) ?_
                    refine lv_iload_n hx hb dX0_run_245 rfl (lv_at hl 2 rfl) ?_
                    refine lv_iconst (v := 3) hx hb dX0_run_246 (by decide) ?_
                    refine lv_iload_n hx hb dX0_run_247 rfl (lv_at hl 3 rfl) ?_
                    refine lv_iload hx hb dX0_run_248 (lv_at hl 4 rfl) ?_
                    obtain ⟨r30, k31, hf⟩ := bd_some hf
                    refine w_goI hw (w_runV (rest := []) C hw (zX0_fromAboveg _ _ (Nat.le_refl _) (Nat.le_refl _) hr_run n st5 (4 : Int32) v2 (3 : Int32) v3 v4 r30 k31) (by decide) (EC_49 X _ _) rfl km_X0_40 ki_yX0_fromAbove kv_X0_fromAbove kz_X0 kc_X0_fromAbove rfl ok_yX0_fromAbove ⟨by dsimp only; omega, by dsimp only; omega⟩ rfl rfl rfl rfl hl.1 (Nat.le_of_ble_eq_true rfl) dX0_run_250 ⟨Nat.zero_le _, Nat.zero_le _⟩) (fun H locs hw => ?_)
                    refine lv_iconst (v := 5) hx hb dX0_run_253 (by decide) ?_
                    refine lv_ixor hx hb dX0_run_254 ?_
                    exact w_iret C hw hr (so2 hf).1 (so2 hf).2 dX0_run_255
                  · replace hf := ite_f hf c29
                    by_cases c32 : v1 = 60
                    · replace hf := ite_t hf c32
                      refine lv_lookup (tgt := 256) (off := 226) hx hb dX0_run_30 (by decide) (by rw [c32] <;> rfl) (by decide) ?_
                      refine lv_aload_n hx hb dX0_run_256 rfl (lv_at hl 0 rfl) ?_
                      refine lv_iconst (v := 5) hx hb dX0_run_257 (by decide) ?_
                      refine lv_iload_n hx hb dX0_run_258 rfl (lv_at hl 2 rfl) ?_
                      refine lv_iconst (v := 2) hx hb dX0_run_259 (by decide) ?_
                      refine lv_iload_n hx hb dX0_run_260 rfl (lv_at hl 3 rfl) ?_
                      refine lv_iload hx hb dX0_run_261 (lv_at hl 4 rfl) ?_
                      obtain ⟨r33, k34, hf⟩ := bd_some hf
                      refine w_goI hw (w_runV (rest := []) C hw (zX0_fromAboveg _ _ (Nat.le_refl _) (Nat.le_refl _) hr_run n st5 (5 : Int32) v2 (2 : Int32) v3 v4 r33 k34) (by decide) (EC_49 X _ _) rfl km_X0_40 ki_yX0_fromAbove kv_X0_fromAbove kz_X0 kc_X0_fromAbove rfl ok_yX0_fromAbove ⟨by dsimp only; omega, by dsimp only; omega⟩ rfl rfl rfl rfl hl.1 (Nat.le_of_ble_eq_true rfl) dX0_run_263 ⟨Nat.zero_le _, Nat.zero_le _⟩) (fun H locs hw => ?_)
                      refine lv_aload_n hx hb dX0_run_266 rfl (lv_at hl 0 rfl) ?_
                      refine lv_iload_n hx hb dX0_run_267 rfl (lv_at hl 2 rfl) ?_
                      refine lv_iconst (v := 0) hx hb dX0_run_268 (by decide) ?_
                      refine lv_iconst (v := 2) hx hb dX0_run_269 (by decide) ?_
                      refine lv_iload hx hb dX0_run_270 (lv_at hl 4 rfl) ?_
                      obtain ⟨r35, k36, hf⟩ := bd_some hf
                      refine w_goI hw (w_runV (rest := [.int r33.1]) C hw (zX0_ofItsOwng _ _ (Nat.le_refl _) (Nat.le_refl _) hr_run n r33.2 v2 (0 : Int32) (2 : Int32) v4 r35 k36) (by decide) (EC_49 X _ _) rfl km_X0_37 ki_yX0_ofItsOwn kv_X0_ofItsOwn kz_X0 kc_X0_ofItsOwn rfl ok_yX0_ofItsOwn ⟨by dsimp only; omega, by dsimp only; omega⟩ rfl rfl rfl rfl hl.1 (Nat.le_of_ble_eq_true rfl) dX0_run_272 ⟨Nat.zero_le _, Nat.zero_le _⟩) (fun H locs hw => ?_)
                      refine lv_isub hx hb dX0_run_275 ?_
                      exact w_iret C hw hr (so2 hf).1 (so2 hf).2 dX0_run_276
                    · replace hf := ite_f hf c32
                      by_cases c37 : v1 = 61
                      · replace hf := ite_t hf c37
                        refine lv_lookup (tgt := 277) (off := 247) hx hb dX0_run_30 (by decide) (by rw [c37] <;> rfl) (by decide) ?_
                        refine lv_aload_n hx hb dX0_run_277 rfl (lv_at hl 0 rfl) ?_
                        refine lv_iconst (v := 5) hx hb dX0_run_278 (by decide) ?_
                        refine lv_iload_n hx hb dX0_run_279 rfl (lv_at hl 2 rfl) ?_
                        refine lv_iconst (v := 3) hx hb dX0_run_280 (by decide) ?_
                        refine lv_iload_n hx hb dX0_run_281 rfl (lv_at hl 3 rfl) ?_
                        refine lv_iload hx hb dX0_run_282 (lv_at hl 4 rfl) ?_
                        obtain ⟨r38, k39, hf⟩ := bd_some hf
                        refine w_goI hw (w_runV (rest := []) C hw (zX0_fromAboveg _ _ (Nat.le_refl _) (Nat.le_refl _) hr_run n st5 (5 : Int32) v2 (3 : Int32) v3 v4 r38 k39) (by decide) (EC_49 X _ _) rfl km_X0_40 ki_yX0_fromAbove kv_X0_fromAbove kz_X0 kc_X0_fromAbove rfl ok_yX0_fromAbove ⟨by dsimp only; omega, by dsimp only; omega⟩ rfl rfl rfl rfl hl.1 (Nat.le_of_ble_eq_true rfl) dX0_run_284 ⟨Nat.zero_le _, Nat.zero_le _⟩) (fun H locs hw => ?_)
                        refine lv_iconst (v := 1) hx hb dX0_run_287 (by decide) ?_
                        refine lv_iadd hx hb dX0_run_288 ?_
                        exact w_iret C hw hr (so2 hf).1 (so2 hf).2 dX0_run_289
                      · replace hf := ite_f hf c37
                        by_cases c40 : v1 = 70
                        · replace hf := ite_t hf c40
                          refine lv_lookup (tgt := 290) (off := 260) hx hb dX0_run_30 (by decide) (by rw [c40] <;> rfl) (by decide) ?_
                          refine lv_aload_n hx hb dX0_run_290 rfl (lv_at hl 0 rfl) ?_
                          refine lv_bipush (v := 6) hx hb dX0_run_291 (by decide) ?_
                          refine lv_iload_n hx hb dX0_run_293 rfl (lv_at hl 2 rfl) ?_
                          refine lv_iconst (v := 0) hx hb dX0_run_294 (by decide) ?_
                          refine lv_iload_n hx hb dX0_run_295 rfl (lv_at hl 3 rfl) ?_
                          refine lv_iload hx hb dX0_run_296 (lv_at hl 4 rfl) ?_
                          obtain ⟨r41, k42, hf⟩ := bd_some hf
                          refine w_goI hw (w_runV (rest := []) C hw (zX0_fromAboveg _ _ (Nat.le_refl _) (Nat.le_refl _) hr_run n st5 (6 : Int32) v2 (0 : Int32) v3 v4 r41 k42) (by decide) (EC_49 X _ _) rfl km_X0_40 ki_yX0_fromAbove kv_X0_fromAbove kz_X0 kc_X0_fromAbove rfl ok_yX0_fromAbove ⟨by dsimp only; omega, by dsimp only; omega⟩ rfl rfl rfl rfl hl.1 (Nat.le_of_ble_eq_true rfl) dX0_run_298 ⟨Nat.zero_le _, Nat.zero_le _⟩) (fun H locs hw => ?_)
                          refine lv_iconst (v := 2) hx hb dX0_run_301 (by decide) ?_
                          refine lv_imul hx hb dX0_run_302 ?_
                          exact w_iret C hw hr (so2 hf).1 (so2 hf).2 dX0_run_303
                        · replace hf := ite_f hf c40
                          by_cases c43 : v1 = 80
                          · replace hf := ite_t hf c43
                            refine lv_lookup (tgt := 304) (off := 274) hx hb dX0_run_30 (by decide) (by rw [c43] <;> rfl) (by decide) ?_
                            refine lv_aload_n hx hb dX0_run_304 rfl (lv_at hl 0 rfl) ?_
                            refine lv_bipush (v := 7) hx hb dX0_run_305 (by decide) ?_
                            refine lv_iload_n hx hb dX0_run_307 rfl (lv_at hl 2 rfl) ?_
                            refine lv_iconst (v := 1) hx hb dX0_run_308 (by decide) ?_
                            refine lv_iload_n hx hb dX0_run_309 rfl (lv_at hl 3 rfl) ?_
                            refine lv_iload hx hb dX0_run_310 (lv_at hl 4 rfl) ?_
                            obtain ⟨r44, k45, hf⟩ := bd_some hf
                            refine w_goI hw (w_runV (rest := []) C hw (zX0_fromAboveg _ _ (Nat.le_refl _) (Nat.le_refl _) hr_run n st5 (7 : Int32) v2 (1 : Int32) v3 v4 r44 k45) (by decide) (EC_49 X _ _) rfl km_X0_40 ki_yX0_fromAbove kv_X0_fromAbove kz_X0 kc_X0_fromAbove rfl ok_yX0_fromAbove ⟨by dsimp only; omega, by dsimp only; omega⟩ rfl rfl rfl rfl hl.1 (Nat.le_of_ble_eq_true rfl) dX0_run_312 ⟨Nat.zero_le _, Nat.zero_le _⟩) (fun H locs hw => ?_)
                            refine lv_aload_n hx hb dX0_run_315 rfl (lv_at hl 0 rfl) ?_
                            refine lv_iload_n hx hb dX0_run_316 rfl (lv_at hl 2 rfl) ?_
                            refine lv_iconst (v := 2) hx hb dX0_run_317 (by decide) ?_
                            refine lv_iconst (v := 2) hx hb dX0_run_318 (by decide) ?_
                            refine lv_iload hx hb dX0_run_319 (lv_at hl 4 rfl) ?_
                            obtain ⟨r46, k47, hf⟩ := bd_some hf
                            refine w_goI hw (w_runV (rest := [.int r44.1]) C hw (zX0_ofItsOwng _ _ (Nat.le_refl _) (Nat.le_refl _) hr_run n r44.2 v2 (2 : Int32) (2 : Int32) v4 r46 k47) (by decide) (EC_49 X _ _) rfl km_X0_37 ki_yX0_ofItsOwn kv_X0_ofItsOwn kz_X0 kc_X0_ofItsOwn rfl ok_yX0_ofItsOwn ⟨by dsimp only; omega, by dsimp only; omega⟩ rfl rfl rfl rfl hl.1 (Nat.le_of_ble_eq_true rfl) dX0_run_321 ⟨Nat.zero_le _, Nat.zero_le _⟩) (fun H locs hw => ?_)
                            refine lv_iadd hx hb dX0_run_324 ?_
                            exact w_iret C hw hr (so2 hf).1 (so2 hf).2 dX0_run_325
                          · replace hf := ite_f hf c43
                            by_cases c48 : v1 = 81
                            · replace hf := ite_t hf c48
                              refine lv_lookup (tgt := 326) (off := 296) hx hb dX0_run_30 (by decide) (by rw [c48] <;> rfl) (by decide) ?_
                              refine lv_aload_n hx hb dX0_run_326 rfl (lv_at hl 0 rfl) ?_
                              refine lv_bipush (v := 7) hx hb dX0_run_327 (by decide) ?_
                              refine lv_iload_n hx hb dX0_run_329 rfl (lv_at hl 2 rfl) ?_
                              refine lv_iconst (v := 0) hx hb dX0_run_330 (by decide) ?_
                              refine lv_iload_n hx hb dX0_run_331 rfl (lv_at hl 3 rfl) ?_
                              refine lv_iload hx hb dX0_run_332 (lv_at hl 4 rfl) ?_
                              obtain ⟨r49, k50, hf⟩ := bd_some hf
                              refine w_goI hw (w_runV (rest := []) C hw (zX0_fromAboveg _ _ (Nat.le_refl _) (Nat.le_refl _) hr_run n st5 (7 : Int32) v2 (0 : Int32) v3 v4 r49 k50) (by decide) (EC_49 X _ _) rfl km_X0_40 ki_yX0_fromAbove kv_X0_fromAbove kz_X0 kc_X0_fromAbove rfl ok_yX0_fromAbove ⟨by dsimp only; omega, by dsimp only; omega⟩ rfl rfl rfl rfl hl.1 (Nat.le_of_ble_eq_true rfl) dX0_run_334 ⟨Nat.zero_le _, Nat.zero_le _⟩) (fun H locs hw => ?_)
                              refine lv_iconst (v := 1) hx hb dX0_run_337 (by decide) ?_
                              refine lv_isub hx hb dX0_run_338 ?_
                              exact w_iret C hw hr (so2 hf).1 (so2 hf).2 dX0_run_339
                            · replace hf := ite_f hf c48
                              refine lv_lookup (tgt := 340) (off := 310) hx hb dX0_run_30 (by decide) ((lv_osw (a := 1) c7 (by decide)).trans ((lv_osw (a := 2) c8 (by decide)).trans ((lv_osw (a := 10) c13 (by decide)).trans ((lv_osw (a := 11) c16 (by decide)).trans ((lv_osw (a := 20) c17 (by decide)).trans ((lv_osw (a := 30) c20 (by decide)).trans ((lv_osw (a := 40) c23 (by decide)).trans ((lv_osw (a := 41) c26 (by decide)).trans ((lv_osw (a := 50) c29 (by decide)).trans ((lv_osw (a := 60) c32 (by decide)).trans ((lv_osw (a := 61) c37 (by decide)).trans ((lv_osw (a := 70) c40 (by decide)).trans ((lv_osw (a := 80) c43 (by decide)).trans ((lv_osw (a := 81) c48 (by decide)).trans rfl)))))))))))))) (by decide) ?_
                              refine lv_iconst (v := 0) hx hb dX0_run_340 (by decide) ?_
                              exact w_iret C hw hr (so2 hf).1 (so2 hf).2 dX0_run_341
def fX0_rung (rc_run : Nat → St → Int32 → Int32 → Int32 → Int32 → Option (Int32 × St)) (n : Nat) (st : St) (a1 : Int32) (a2 : Int32) (a3 : Int32) (a4 : Int32) : Option (Int32 × St) := if (24 : Int32) ≤ gI st 49 3 then (fX0_rung_19 rc_run n st a1 a2 a3 a4) else (gd (inB (gI st 49 3) 24) (bnd (sI st 51 (gI st 49 3).toNatClampNeg a1) (fun st3 => fX0_rung_19 rc_run n st3 a1 a2 a3 a4)))
set_option maxHeartbeats 4000000 in
theorem zX0_rung (l : Launch) (X : WX) {FB LB RF RL : Nat} (hRF : FB + 3 ≤ RF) (hRL : LB + 77 ≤ RL) {rc_run : Nat → St → Int32 → Int32 → Int32 → Int32 → Option (Int32 × St)} (hr_run : ∀ (n : Nat) (st : St) (a1 : Int32) (a2 : Int32) (a3 : Int32) (a4 : Int32) (R : Int32 × St), rc_run n st a1 a2 a3 a4 = some R → CtI l yX0_run cX0_run 5 .int ({ frames := FB, cells := 0, slots := 0, locals := LB }) EC 65 X [.ref (xq X 49), .int a1, .int a2, .int a3, .int a4] st R.1 R.2) (n : Nat) (st : St) (a1 : Int32) (a2 : Int32) (a3 : Int32) (a4 : Int32) (R : Int32 × St) (hf : fX0_rung rc_run n st a1 a2 a3 a4 = some R) : CtI l yX0_run cX0_run 5 .int ({ frames := RF, cells := 0, slots := 0, locals := RL }) EC 65 X [.ref (xq X 49), .int a1, .int a2, .int a3, .int a4] st R.1 R.2 := by
  refine ct_in (own := RX0) (by decide +kernel) rfl (Nat.le_of_ble_eq_true rfl) (fun p e s m below meth c C hr hw ls hl => ?_)
  obtain ⟨hx, hb, hml, hown, hts⟩ := id C.1
  have hl : lv_has ls 5 [(0, .ref (xq X 49)), (1, .int a1), (2, .int a2), (3, .int a3), (4, .int a4)] := hl
  unfold fX0_rung at hf
  refine lv_aload_n hx hb dX0_run_0 rfl (lv_at hl 0 rfl) ?_
  refine w_get (T := TX0) C hw (by decide) 3 kf_X0_34 (EC_49 X _ _) rfl inA0 (by decide) rfl dX0_run_1 ?_
  refine lv_bipush (v := 24) hx hb dX0_run_4 (by decide) ?_
  refine lv_icmp_ge (tgt := 19) hx hb dX0_run_6 (by decide) (fun c1 => ?_) (fun c1 => ?_)
  · replace hf := ite_t hf c1
    exact tX0_rung_19 C hr hRF hRL hr_run st a1 a2 a3 a4 _ _ _ hw (lv_sub hl [0, 1, 2, 3, 4] rfl) hf
  · replace hf := ite_f hf c1
    refine lv_aload_n hx hb dX0_run_9 rfl (lv_at hl 0 rfl) ?_
    refine w_get (T := TX0) C hw (by decide) 2 kf_X0_13 (EC_49 X _ _) rfl inA0 (by decide) rfl dX0_run_10 ?_
    refine lv_aload_n hx hb dX0_run_13 rfl (lv_at hl 0 rfl) ?_
    refine w_get (T := TX0) C hw (by decide) 3 kf_X0_34 (EC_49 X _ _) rfl inA0 (by decide) rfl dX0_run_14 ?_
    refine lv_iload_n hx hb dX0_run_17 rfl (lv_at hl 1 rfl) ?_
    obtain ⟨h2, hf⟩ := gd_some hf
    obtain ⟨st3, es4⟩ : ∃ z : St, z = sI st 51 (gI st 49 3).toNatClampNeg a1 := ⟨_, rfl⟩
    replace hf := bnd_nm hf es4
    refine w_iast C hw (by decide) (fun f9 => EC_51 X f9 _) h2 rfl dX0_run_18 (fun H locs hw => ?_)
    rw [← es4] at hw
    exact tX0_rung_19 C hr hRF hRL hr_run st3 a1 a2 a3 a4 _ _ _ hw (lv_sub hl [0, 1, 2, 3, 4] rfl) hf
def grX0 : Nat → (Nat → St → Int32 → Int32 → Int32 → Int32 → Option (Int32 × St))
  | 0 => (fun _ _ _ _ _ _ => none)
  | d + 1 => (fX0_rung (grX0 d))
set_option maxHeartbeats 4000000 in
theorem grX0_ok (l : Launch) (X : WX) (d : Nat) : (∀ (n : Nat) (st : St) (a1 : Int32) (a2 : Int32) (a3 : Int32) (a4 : Int32) (R : Int32 × St), (grX0 d) n st a1 a2 a3 a4 = some R → CtI l yX0_run cX0_run 5 .int ({ frames := d * 3, cells := 0, slots := 0, locals := d * 77 }) EC 65 X [.ref (xq X 49), .int a1, .int a2, .int a3, .int a4] st R.1 R.2) := by
  induction d with
  | zero => exact fun _ _ _ _ _ _ _ h => absurd (show none = some _ from h) (fun z => by cases z)
  | succ d ih =>
    exact fun n st b0 b1 b2 b3 R h => zX0_rung l X (RF := (d + 1) * 3) (RL := (d + 1) * 77) (FB := d * 3) (LB := d * 77) (by omega) (by omega) ih n st b0 b1 b2 b3 R h
def fX0_runFrom (n : Nat) (st : St) (a1 : Int32) (a2 : Int32) (a3 : Int32) (a4 : Int32) (a5 : Int32) : Option (Int32 × St) := fX0_runFromg (grX0 8) n st a1 a2 a3 a4 a5
theorem zX0_runFrom (l : Launch) (X : WX) (n : Nat) (st : St) (a1 : Int32) (a2 : Int32) (a3 : Int32) (a4 : Int32) (a5 : Int32) (R : Int32 × St) (hf : fX0_runFrom n st a1 a2 a3 a4 a5 = some R) : CtI l yX0_runFrom cX0_runFrom 9 .int ({ frames := 25, cells := 0, slots := 0, locals := 640 }) EC 65 X [.ref (xq X 49), .int a1, .int a2, .int a3, .int a4, .int a5] st R.1 R.2 := zX0_runFromg l X (FB := 8 * 3) (LB := 8 * 77) (Nat.le_of_ble_eq_true rfl) (Nat.le_of_ble_eq_true rfl) (grX0_ok l X 8) n st a1 a2 a3 a4 a5 R hf
def fX0_ofItsOwn (n : Nat) (st : St) (a1 : Int32) (a2 : Int32) (a3 : Int32) (a4 : Int32) : Option (Int32 × St) := fX0_ofItsOwng (grX0 8) n st a1 a2 a3 a4
theorem zX0_ofItsOwn (l : Launch) (X : WX) (n : Nat) (st : St) (a1 : Int32) (a2 : Int32) (a3 : Int32) (a4 : Int32) (R : Int32 × St) (hf : fX0_ofItsOwn n st a1 a2 a3 a4 = some R) : CtI l yX0_ofItsOwn cX0_ofItsOwn 5 .int ({ frames := 26, cells := 0, slots := 0, locals := 668 }) EC 65 X [.ref (xq X 49), .int a1, .int a2, .int a3, .int a4] st R.1 R.2 := zX0_ofItsOwng l X (FB := 8 * 3) (LB := 8 * 77) (Nat.le_of_ble_eq_true rfl) (Nat.le_of_ble_eq_true rfl) (grX0_ok l X 8) n st a1 a2 a3 a4 R hf
def fX0_fromAbove (n : Nat) (st : St) (a1 : Int32) (a2 : Int32) (a3 : Int32) (a4 : Int32) (a5 : Int32) : Option (Int32 × St) := fX0_fromAboveg (grX0 8) n st a1 a2 a3 a4 a5
theorem zX0_fromAbove (l : Launch) (X : WX) (n : Nat) (st : St) (a1 : Int32) (a2 : Int32) (a3 : Int32) (a4 : Int32) (a5 : Int32) (R : Int32 × St) (hf : fX0_fromAbove n st a1 a2 a3 a4 a5 = some R) : CtI l yX0_fromAbove cX0_fromAbove 6 .int ({ frames := 26, cells := 0, slots := 0, locals := 668 }) EC 65 X [.ref (xq X 49), .int a1, .int a2, .int a3, .int a4, .int a5] st R.1 R.2 := zX0_fromAboveg l X (FB := 8 * 3) (LB := 8 * 77) (Nat.le_of_ble_eq_true rfl) (Nat.le_of_ble_eq_true rfl) (grX0_ok l X 8) n st a1 a2 a3 a4 a5 R hf
def fX0_run (n : Nat) (st : St) (a1 : Int32) (a2 : Int32) (a3 : Int32) (a4 : Int32) : Option (Int32 × St) := fX0_rung (grX0 8) n st a1 a2 a3 a4
theorem zX0_run (l : Launch) (X : WX) (n : Nat) (st : St) (a1 : Int32) (a2 : Int32) (a3 : Int32) (a4 : Int32) (R : Int32 × St) (hf : fX0_run n st a1 a2 a3 a4 = some R) : CtI l yX0_run cX0_run 5 .int ({ frames := 27, cells := 0, slots := 0, locals := 693 }) EC 65 X [.ref (xq X 49), .int a1, .int a2, .int a3, .int a4] st R.1 R.2 := zX0_rung l X (FB := 8 * 3) (LB := 8 * 77) (Nat.le_of_ble_eq_true rfl) (Nat.le_of_ble_eq_true rfl) (grX0_ok l X 8) n st a1 a2 a3 a4 R hf
theorem dX0_isUnder_0 : decode cX0_isUnder 0 = .ok (.iload_n 1, 1) := by decide +kernel
theorem dX0_isUnder_1 : decode cX0_isUnder 1 = .ok (.istore_n 3, 1) := by decide +kernel
theorem dX0_isUnder_2 : decode cX0_isUnder 2 = .ok (.iconst 0, 1) := by decide +kernel
theorem dX0_isUnder_3 : decode cX0_isUnder 3 = .ok (.istore 4, 2) := by decide +kernel
theorem dX0_isUnder_5 : decode cX0_isUnder 5 = .ok (.iload 4, 2) := by decide +kernel
theorem dX0_isUnder_7 : decode cX0_isUnder 7 = .ok (.bipush 8, 2) := by decide +kernel
theorem dX0_isUnder_9 : decode cX0_isUnder 9 = .ok (.if_icmp .ge 26, 3) := by decide +kernel
theorem dX0_isUnder_12 : decode cX0_isUnder 12 = .ok (.iload_n 3, 1) := by decide +kernel
theorem dX0_isUnder_13 : decode cX0_isUnder 13 = .ok (.ifCond .lt 22, 3) := by decide +kernel
theorem dX0_isUnder_16 : decode cX0_isUnder 16 = .ok (.iload_n 3, 1) := by decide +kernel
theorem dX0_isUnder_17 : decode cX0_isUnder 17 = .ok (.iload_n 2, 1) := by decide +kernel
theorem dX0_isUnder_18 : decode cX0_isUnder 18 = .ok (.if_icmp .ne 5, 3) := by decide +kernel
theorem dX0_isUnder_21 : decode cX0_isUnder 21 = .ok (.iconst 1, 1) := by decide +kernel
theorem dX0_isUnder_22 : decode cX0_isUnder 22 = .ok (.ireturn, 1) := by decide +kernel
theorem dX0_isUnder_23 : decode cX0_isUnder 23 = .ok (.getstatic 20, 3) := by decide +kernel
theorem dX0_isUnder_26 : decode cX0_isUnder 26 = .ok (.iload_n 3, 1) := by decide +kernel
theorem dX0_isUnder_27 : decode cX0_isUnder 27 = .ok (.iaload, 1) := by decide +kernel
theorem dX0_isUnder_28 : decode cX0_isUnder 28 = .ok (.istore_n 3, 1) := by decide +kernel
theorem dX0_isUnder_29 : decode cX0_isUnder 29 = .ok (.iinc 4 1, 3) := by decide +kernel
theorem dX0_isUnder_32 : decode cX0_isUnder 32 = .ok (.goto (-27), 3) := by decide +kernel
theorem dX0_isUnder_35 : decode cX0_isUnder 35 = .ok (.iconst 0, 1) := by decide +kernel
theorem dX0_isUnder_36 : decode cX0_isUnder 36 = .ok (.ireturn, 1) := by decide +kernel
theorem ok_yX0_isUnder : yOk yX0_isUnder 2 := ⟨by decide +kernel, by decide +kernel, by decide +kernel⟩
def fX0_isUnder_5 (n : Nat) (st : St) : Nat → Int32 → Int32 → Int32 → Option (Bool)
  | 0, _, _, _ => none
  | k + 1, v2, v3, v4 => if (8 : Int32) ≤ v4 then (some false) else (if v3 < 0 then (some false) else (if v3 = v2 then (some true) else (gd (inB v3 8) (bnd (tb tABOVE v3.toNatClampNeg) (fun x5 => bnd (v4 + (1 : Int32)) (fun x7 => fX0_isUnder_5 n st k v2 x5 x7))))))
set_option maxHeartbeats 4000000 in
theorem tX0_isUnder_5 {p : Program} {l : Launch} {e : Env} {s : State} {m : MethodId} {args : Array Value} {below : List Frame} {meth : Method} {c : Code} {X : WX} (C : Amb 65 X p s m args meth c cX0_isUnder 5 RX0) (hr : meth.sig.returnType = some .boolean) {R : Bool} {n : Nat} {st : St} : ∀ (k : Nat) (v2 : Int32) (v3 : Int32) (v4 : Int32) (H : Heap) (locs : List Loc) (ls : Array Slot), Wd EC 65 X s.heap st H locs → lv_has ls 5 [(2, .int v2), (3, .int v3), (4, .int v4)] → fX0_isUnder_5 n st k v2 v3 v4 = some R → W p l e { frames := 0, cells := 0, slots := 0, locals := 0 } s m args below meth c H locs 0 0 (QI EC 65 X (bI R) st below args s) (F0 m 5 ls []) := by
  obtain ⟨hx, hb, hml, hown, hts⟩ := id C.1
  intro k
  induction k with
  | zero => intro v2 v3 v4 H locs ls  hw hl hf; exact absurd (show none = some R from hf) (fun z => by cases z)
  | succ k ih =>
    intro v2 v3 v4 H locs ls  hw hl hf
    rw [fX0_isUnder_5] at hf
    refine lv_iload hx hb dX0_isUnder_5 (lv_at hl 2 rfl) ?_
    refine lv_bipush (v := 8) hx hb dX0_isUnder_7 (by decide) ?_
    refine lv_icmp_ge (tgt := 35) hx hb dX0_isUnder_9 (by decide) (fun c1 => ?_) (fun c1 => ?_)
    · replace hf := ite_t hf c1
      refine lv_iconst (v := 0) hx hb dX0_isUnder_35 (by decide) ?_
      exact w_zret (b := false) C hw hr rfl (Option.some.inj hf) rfl dX0_isUnder_36
    · replace hf := ite_f hf c1
      refine lv_iload_n hx hb dX0_isUnder_12 rfl (lv_at hl 1 rfl) ?_
      refine lv_if_lt (tgt := 35) hx hb dX0_isUnder_13 (by decide) (fun c2 => ?_) (fun c2 => ?_)
      · replace hf := ite_t hf c2
        refine lv_iconst (v := 0) hx hb dX0_isUnder_35 (by decide) ?_
        exact w_zret (b := false) C hw hr rfl (Option.some.inj hf) rfl dX0_isUnder_36
      · replace hf := ite_f hf c2
        refine lv_iload_n hx hb dX0_isUnder_16 rfl (lv_at hl 1 rfl) ?_
        refine lv_iload_n hx hb dX0_isUnder_17 rfl (lv_at hl 0 rfl) ?_
        refine lv_icmp_ne (tgt := 23) hx hb dX0_isUnder_18 (by decide) (fun c3 => ?_) (fun c3 => ?_)
        · replace hf := ite_f hf c3
          refine w_gets C hw C.2.2.1.2.2.2.1 kf_X0_20 dX0_isUnder_23 ?_
          refine lv_iload_n hx hb dX0_isUnder_26 rfl (lv_at hl 1 rfl) ?_
          obtain ⟨h4, hf⟩ := gd_some hf
          refine w_tald C hw C.2.2.1.2.2.2.1 h4 rfl dX0_isUnder_27 ?_
          refine lv_topi (fun x5 e6 => ?_)
          replace hf := bnd_nm hf e6
          refine lv_istore_n (lv' := [(3, .int x5), (2, .int v2), (4, .int v4)]) hx hb dX0_isUnder_28 rfl hl (by decide) rfl (fun ls hl => ?_)
          obtain ⟨x7, e8⟩ : ∃ z : Int32, z = v4 + (1 : Int32) := ⟨_, rfl⟩
          replace hf := bnd_nm hf e8
          refine lv_iinc (v := x7) (lv' := [(4, .int x7), (3, .int x5), (2, .int v2)]) hx hb dX0_isUnder_29 hl (k := 2) rfl (by rw [e8]; rfl) (by decide) rfl (fun ls hl => ?_)
          refine lv_goto (tgt := 5) hx hb dX0_isUnder_32 (by decide) ?_
          exact ih v2 x5 x7 _ _ _ hw (lv_sub hl [2, 1, 0] rfl) hf
        · replace hf := ite_t hf c3
          refine lv_iconst (v := 1) hx hb dX0_isUnder_21 (by decide) ?_
          exact w_zret (b := true) C hw hr rfl (Option.some.inj hf) rfl dX0_isUnder_22
def fX0_isUnder (n : Nat) (st : St) (a1 : Int32) (a2 : Int32) : Option (Bool) := fX0_isUnder_5 n st n a2 a1 (0 : Int32)
set_option maxHeartbeats 4000000 in
theorem zX0_isUnder (l : Launch) (X : WX) (n : Nat) (st : St) (a1 : Int32) (a2 : Int32) (R : Bool) (hf : fX0_isUnder n st a1 a2 = some R) : CtI l yX0_isUnder cX0_isUnder 5 .boolean ({ frames := 0, cells := 0, slots := 0, locals := 0 }) EC 65 X [.ref (xq X 49), .int a1, .int a2] st (bI R) st := by
  refine ct_in (own := RX0) (by decide +kernel) rfl (Nat.le_of_ble_eq_true rfl) (fun p e s m below meth c C hr hw ls hl => ?_)
  obtain ⟨hx, hb, hml, hown, hts⟩ := id C.1
  have hl : lv_has ls 5 [(0, .ref (xq X 49)), (1, .int a1), (2, .int a2)] := hl
  unfold fX0_isUnder at hf
  refine lv_iload_n hx hb dX0_isUnder_0 rfl (lv_at hl 1 rfl) ?_
  refine lv_istore_n (lv' := [(3, .int a1), (0, .ref (xq X 49)), (1, .int a1), (2, .int a2)]) hx hb dX0_isUnder_1 rfl hl (by decide) rfl (fun ls hl => ?_)
  refine lv_iconst (v := 0) hx hb dX0_isUnder_2 (by decide) ?_
  refine lv_istore (lv' := [(4, .int (0 : Int32)), (3, .int a1), (0, .ref (xq X 49)), (1, .int a1), (2, .int a2)]) hx hb dX0_isUnder_3 hl (by decide) rfl (fun ls hl => ?_)
  exact tX0_isUnder_5 C hr n a2 a1 (0 : Int32) _ _ _ hw (lv_sub hl [4, 1, 0] rfl) hf
