theorem dX12_finder_0 : decode cX12_finder 0 = .ok (.aload_n 0, 1) := by decide +kernel
theorem dX12_finder_1 : decode cX12_finder 1 = .ok (.aload_n 0, 1) := by decide +kernel
theorem dX12_finder_2 : decode cX12_finder 2 = .ok (.getfield 28, 3) := by decide +kernel
theorem dX12_finder_5 : decode cX12_finder 5 = .ok (.iload_n 1, 1) := by decide +kernel
theorem dX12_finder_6 : decode cX12_finder 6 = .ok (.iaload, 1) := by decide +kernel
theorem dX12_finder_7 : decode cX12_finder 7 = .ok (.aload_n 0, 1) := by decide +kernel
theorem dX12_finder_8 : decode cX12_finder 8 = .ok (.getfield 31, 3) := by decide +kernel
theorem dX12_finder_11 : decode cX12_finder 11 = .ok (.iload_n 1, 1) := by decide +kernel
theorem dX12_finder_12 : decode cX12_finder 12 = .ok (.iaload, 1) := by decide +kernel
theorem dX12_finder_13 : decode cX12_finder 13 = .ok (.invokevirtual 288, 3) := by decide +kernel
theorem dX12_finder_16 : decode cX12_finder 16 = .ok (.istore_n 2, 1) := by decide +kernel
theorem dX12_finder_17 : decode cX12_finder 17 = .ok (.iload_n 2, 1) := by decide +kernel
theorem dX12_finder_18 : decode cX12_finder 18 = .ok (.ifCond .lt 12, 3) := by decide +kernel
theorem dX12_finder_21 : decode cX12_finder 21 = .ok (.aload_n 0, 1) := by decide +kernel
theorem dX12_finder_22 : decode cX12_finder 22 = .ok (.getfield 22, 3) := by decide +kernel
theorem dX12_finder_25 : decode cX12_finder 25 = .ok (.iload_n 2, 1) := by decide +kernel
theorem dX12_finder_26 : decode cX12_finder 26 = .ok (.iaload, 1) := by decide +kernel
theorem dX12_finder_27 : decode cX12_finder 27 = .ok (.ifCond .ge 8, 3) := by decide +kernel
theorem dX12_finder_30 : decode cX12_finder 30 = .ok (.bipush (-2), 2) := by decide +kernel
theorem dX12_finder_32 : decode cX12_finder 32 = .ok (.goto 9, 3) := by decide +kernel
theorem dX12_finder_35 : decode cX12_finder 35 = .ok (.aload_n 0, 1) := by decide +kernel
theorem dX12_finder_36 : decode cX12_finder 36 = .ok (.getfield 22, 3) := by decide +kernel
theorem dX12_finder_39 : decode cX12_finder 39 = .ok (.iload_n 2, 1) := by decide +kernel
theorem dX12_finder_40 : decode cX12_finder 40 = .ok (.iaload, 1) := by decide +kernel
theorem dX12_finder_41 : decode cX12_finder 41 = .ok (.ireturn, 1) := by decide +kernel
theorem ok_yX12_finder : yOk yX12_finder 1 := ⟨by decide +kernel, by decide +kernel, by decide +kernel⟩
def fX12_finder (n : Nat) (st : St) (a1 : Int32) : Option (Int32) := gd (inB a1 11) (gd (inB a1 11) ((fX12_fieldAt n st (gI st 7 a1.toNatClampNeg) (gI st 8 a1.toNatClampNeg)).bind (fun r3 => if r3 < 0 then (some (-2 : Int32)) else (gd (inB r3 8) (if 0 ≤ gI st 5 r3.toNatClampNeg then (gd (inB r3 8) (some (gI st 5 r3.toNatClampNeg))) else (some (-2 : Int32)))))))
set_option maxHeartbeats 4000000 in
theorem zX12_finder (l : Launch) (X : WX) (n : Nat) (st : St) (a1 : Int32) (R : Int32) (hf : fX12_finder n st a1 = some R) : CtI l yX12_finder cX12_finder 3 .int ({ frames := 2, cells := 0, slots := 0, locals := 46 }) EM 43 X [.ref (xq X 0), .int a1] st R st := by
  refine ct_in (own := RX12) (by decide +kernel) rfl (Nat.le_of_ble_eq_true rfl) (fun p e s m below meth c C hr hw ls hl => ?_)
  obtain ⟨hx, hb, hml, hown, hts⟩ := id C.1
  have hl : lv_has ls 3 [(0, .ref (xq X 0)), (1, .int a1)] := hl
  unfold fX12_finder at hf
  refine lv_aload_n hx hb dX12_finder_0 rfl (lv_at hl 0 rfl) ?_
  refine lv_aload_n hx hb dX12_finder_1 rfl (lv_at hl 0 rfl) ?_
  refine w_get (T := TX12) C hw (by decide) 9 kf_X12_28 (EM_0 X _ _) rfl inA12 (by decide) rfl dX12_finder_2 ?_
  refine lv_iload_n hx hb dX12_finder_5 rfl (lv_at hl 1 rfl) ?_
  obtain ⟨h1, hf⟩ := gd_some hf
  refine w_iald C hw (by decide) (EM_7 X _ _) h1 rfl dX12_finder_6 ?_
  refine lv_aload_n hx hb dX12_finder_7 rfl (lv_at hl 0 rfl) ?_
  refine w_get (T := TX12) C hw (by decide) 10 kf_X12_31 (EM_0 X _ _) rfl inA12 (by decide) rfl dX12_finder_8 ?_
  refine lv_iload_n hx hb dX12_finder_11 rfl (lv_at hl 1 rfl) ?_
  obtain ⟨h2, hf⟩ := gd_some hf
  refine w_iald C hw (by decide) (EM_8 X _ _) h2 rfl dX12_finder_12 ?_
  obtain ⟨r3, k4, hf⟩ := bd_some hf
  refine w_goI hw (w_runV (rest := []) C hw (zX12_fieldAt _ _ n st (gI st 7 a1.toNatClampNeg) (gI st 8 a1.toNatClampNeg) r3 k4) (by decide) (EM_0 X _ _) rfl km_X12_288 ki_yX12_fieldAt kv_X12_fieldAt kz_X12 kc_X12_fieldAt rfl ok_yX12_fieldAt ⟨Nat.le_of_ble_eq_true rfl, Nat.le_of_ble_eq_true rfl⟩ rfl rfl rfl rfl hl.1 (Nat.le_of_ble_eq_true rfl) dX12_finder_13 ⟨Nat.zero_le _, Nat.zero_le _⟩) (fun H locs hw => ?_)
  refine lv_istore_n (lv' := [(2, .int r3), (0, .ref (xq X 0)), (1, .int a1)]) hx hb dX12_finder_16 rfl hl (by decide) rfl (fun ls hl => ?_)
  refine lv_iload_n hx hb dX12_finder_17 rfl (lv_at hl 0 rfl) ?_
  refine lv_if_lt (tgt := 30) hx hb dX12_finder_18 (by decide) (fun c5 => ?_) (fun c5 => ?_)
  · replace hf := ite_t hf c5
    refine lv_bipush (v := -2) hx hb dX12_finder_30 (by decide) ?_
    refine lv_goto (tgt := 41) hx hb dX12_finder_32 (by decide) ?_
    exact w_iret C hw hr (Option.some.inj hf) rfl dX12_finder_41
  · replace hf := ite_f hf c5
    refine lv_aload_n hx hb dX12_finder_21 rfl (lv_at hl 1 rfl) ?_
    refine w_get (T := TX12) C hw (by decide) 6 kf_X12_22 (EM_0 X _ _) rfl inA12 (by decide) rfl dX12_finder_22 ?_
    refine lv_iload_n hx hb dX12_finder_25 rfl (lv_at hl 0 rfl) ?_
    obtain ⟨h6, hf⟩ := gd_some hf
    refine w_iald C hw (by decide) (EM_5 X _ _) h6 rfl dX12_finder_26 ?_
    refine lv_if_ge (tgt := 35) hx hb dX12_finder_27 (by decide) (fun c7 => ?_) (fun c7 => ?_)
    · replace hf := ite_t hf c7
      refine lv_aload_n hx hb dX12_finder_35 rfl (lv_at hl 1 rfl) ?_
      refine w_get (T := TX12) C hw (by decide) 6 kf_X12_22 (EM_0 X _ _) rfl inA12 (by decide) rfl dX12_finder_36 ?_
      refine lv_iload_n hx hb dX12_finder_39 rfl (lv_at hl 0 rfl) ?_
      obtain ⟨h8, hf⟩ := gd_some hf
      refine w_iald C hw (by decide) (EM_5 X _ _) h8 rfl dX12_finder_40 ?_
      exact w_iret C hw hr (Option.some.inj hf) rfl dX12_finder_41
    · replace hf := ite_f hf c7
      refine lv_bipush (v := -2) hx hb dX12_finder_30 (by decide) ?_
      refine lv_goto (tgt := 41) hx hb dX12_finder_32 (by decide) ?_
      exact w_iret C hw hr (Option.some.inj hf) rfl dX12_finder_41
theorem dX12_countsOf_0 : decode cX12_countsOf 0 = .ok (.aload_n 0, 1) := by decide +kernel
theorem dX12_countsOf_1 : decode cX12_countsOf 1 = .ok (.getfield 43, 3) := by decide +kernel
theorem dX12_countsOf_4 : decode cX12_countsOf 4 = .ok (.iload_n 2, 1) := by decide +kernel
theorem dX12_countsOf_5 : decode cX12_countsOf 5 = .ok (.iaload, 1) := by decide +kernel
theorem dX12_countsOf_6 : decode cX12_countsOf 6 = .ok (.aload_n 0, 1) := by decide +kernel
theorem dX12_countsOf_7 : decode cX12_countsOf 7 = .ok (.getfield 34, 3) := by decide +kernel
theorem dX12_countsOf_10 : decode cX12_countsOf 10 = .ok (.iload_n 1, 1) := by decide +kernel
theorem dX12_countsOf_11 : decode cX12_countsOf 11 = .ok (.iaload, 1) := by decide +kernel
theorem dX12_countsOf_12 : decode cX12_countsOf 12 = .ok (.invokestatic 291, 3) := by decide +kernel
theorem dX12_countsOf_15 : decode cX12_countsOf 15 = .ok (.istore_n 3, 1) := by decide +kernel
theorem dX12_countsOf_16 : decode cX12_countsOf 16 = .ok (.aload_n 0, 1) := by decide +kernel
theorem dX12_countsOf_17 : decode cX12_countsOf 17 = .ok (.iload_n 1, 1) := by decide +kernel
theorem dX12_countsOf_18 : decode cX12_countsOf 18 = .ok (.invokevirtual 294, 3) := by decide +kernel
theorem dX12_countsOf_21 : decode cX12_countsOf 21 = .ok (.aload_n 0, 1) := by decide +kernel
theorem dX12_countsOf_22 : decode cX12_countsOf 22 = .ok (.getfield 40, 3) := by decide +kernel
theorem dX12_countsOf_25 : decode cX12_countsOf 25 = .ok (.iload_n 2, 1) := by decide +kernel
theorem dX12_countsOf_26 : decode cX12_countsOf 26 = .ok (.iaload, 1) := by decide +kernel
theorem dX12_countsOf_27 : decode cX12_countsOf 27 = .ok (.if_icmp .ne 7, 3) := by decide +kernel
theorem dX12_countsOf_30 : decode cX12_countsOf 30 = .ok (.iconst 1, 1) := by decide +kernel
theorem dX12_countsOf_31 : decode cX12_countsOf 31 = .ok (.goto 4, 3) := by decide +kernel
theorem dX12_countsOf_34 : decode cX12_countsOf 34 = .ok (.iconst 0, 1) := by decide +kernel
theorem dX12_countsOf_35 : decode cX12_countsOf 35 = .ok (.istore 4, 2) := by decide +kernel
theorem dX12_countsOf_37 : decode cX12_countsOf 37 = .ok (.aload_n 0, 1) := by decide +kernel
theorem dX12_countsOf_38 : decode cX12_countsOf 38 = .ok (.getfield 281, 3) := by decide +kernel
theorem dX12_countsOf_41 : decode cX12_countsOf 41 = .ok (.ifCond .ne 46, 3) := by decide +kernel
theorem dX12_countsOf_44 : decode cX12_countsOf 44 = .ok (.iload 4, 2) := by decide +kernel
theorem dX12_countsOf_46 : decode cX12_countsOf 46 = .ok (.iconst 1, 1) := by decide +kernel
theorem dX12_countsOf_47 : decode cX12_countsOf 47 = .ok (.if_icmp .ne 7, 3) := by decide +kernel
theorem dX12_countsOf_50 : decode cX12_countsOf 50 = .ok (.iconst 0, 1) := by decide +kernel
theorem dX12_countsOf_51 : decode cX12_countsOf 51 = .ok (.goto 35, 3) := by decide +kernel
theorem dX12_countsOf_54 : decode cX12_countsOf 54 = .ok (.bipush 10, 2) := by decide +kernel
theorem dX12_countsOf_56 : decode cX12_countsOf 56 = .ok (.aload_n 0, 1) := by decide +kernel
theorem dX12_countsOf_57 : decode cX12_countsOf 57 = .ok (.getfield 49, 3) := by decide +kernel
theorem dX12_countsOf_60 : decode cX12_countsOf 60 = .ok (.iload_n 2, 1) := by decide +kernel
theorem dX12_countsOf_61 : decode cX12_countsOf 61 = .ok (.iaload, 1) := by decide +kernel
theorem dX12_countsOf_62 : decode cX12_countsOf 62 = .ok (.iadd, 1) := by decide +kernel
theorem dX12_countsOf_63 : decode cX12_countsOf 63 = .ok (.iload_n 3, 1) := by decide +kernel
theorem dX12_countsOf_64 : decode cX12_countsOf 64 = .ok (.isub, 1) := by decide +kernel
theorem dX12_countsOf_65 : decode cX12_countsOf 65 = .ok (.aload_n 0, 1) := by decide +kernel
theorem dX12_countsOf_66 : decode cX12_countsOf 66 = .ok (.getfield 37, 3) := by decide +kernel
theorem dX12_countsOf_69 : decode cX12_countsOf 69 = .ok (.iload_n 1, 1) := by decide +kernel
theorem dX12_countsOf_70 : decode cX12_countsOf 70 = .ok (.iaload, 1) := by decide +kernel
theorem dX12_countsOf_71 : decode cX12_countsOf 71 = .ok (.aload_n 0, 1) := by decide +kernel
theorem dX12_countsOf_72 : decode cX12_countsOf 72 = .ok (.getfield 46, 3) := by decide +kernel
theorem dX12_countsOf_75 : decode cX12_countsOf 75 = .ok (.iload_n 2, 1) := by decide +kernel
theorem dX12_countsOf_76 : decode cX12_countsOf 76 = .ok (.iaload, 1) := by decide +kernel
theorem dX12_countsOf_77 : decode cX12_countsOf 77 = .ok (.if_icmp .ne 7, 3) := by decide +kernel
theorem dX12_countsOf_80 : decode cX12_countsOf 80 = .ok (.iconst 3, 1) := by decide +kernel
theorem dX12_countsOf_81 : decode cX12_countsOf 81 = .ok (.goto 4, 3) := by decide +kernel
theorem dX12_countsOf_84 : decode cX12_countsOf 84 = .ok (.iconst 0, 1) := by decide +kernel
theorem dX12_countsOf_85 : decode cX12_countsOf 85 = .ok (.iadd, 1) := by decide +kernel
theorem dX12_countsOf_86 : decode cX12_countsOf 86 = .ok (.ireturn, 1) := by decide +kernel
theorem dX12_countsOf_87 : decode cX12_countsOf 87 = .ok (.aload_n 0, 1) := by decide +kernel
theorem dX12_countsOf_88 : decode cX12_countsOf 88 = .ok (.getfield 84, 3) := by decide +kernel
theorem dX12_countsOf_91 : decode cX12_countsOf 91 = .ok (.iconst 0, 1) := by decide +kernel
theorem dX12_countsOf_92 : decode cX12_countsOf 92 = .ok (.iload_n 3, 1) := by decide +kernel
theorem dX12_countsOf_93 : decode cX12_countsOf 93 = .ok (.iastore, 1) := by decide +kernel
theorem dX12_countsOf_94 : decode cX12_countsOf 94 = .ok (.aload_n 0, 1) := by decide +kernel
theorem dX12_countsOf_95 : decode cX12_countsOf 95 = .ok (.getfield 84, 3) := by decide +kernel
theorem dX12_countsOf_98 : decode cX12_countsOf 98 = .ok (.iconst 1, 1) := by decide +kernel
theorem dX12_countsOf_99 : decode cX12_countsOf 99 = .ok (.aload_n 0, 1) := by decide +kernel
theorem dX12_countsOf_100 : decode cX12_countsOf 100 = .ok (.getfield 37, 3) := by decide +kernel
theorem dX12_countsOf_103 : decode cX12_countsOf 103 = .ok (.iload_n 1, 1) := by decide +kernel
theorem dX12_countsOf_104 : decode cX12_countsOf 104 = .ok (.iaload, 1) := by decide +kernel
theorem dX12_countsOf_105 : decode cX12_countsOf 105 = .ok (.iastore, 1) := by decide +kernel
theorem dX12_countsOf_106 : decode cX12_countsOf 106 = .ok (.aload_n 0, 1) := by decide +kernel
theorem dX12_countsOf_107 : decode cX12_countsOf 107 = .ok (.getfield 84, 3) := by decide +kernel
theorem dX12_countsOf_110 : decode cX12_countsOf 110 = .ok (.iconst 2, 1) := by decide +kernel
theorem dX12_countsOf_111 : decode cX12_countsOf 111 = .ok (.aload_n 0, 1) := by decide +kernel
theorem dX12_countsOf_112 : decode cX12_countsOf 112 = .ok (.getfield 46, 3) := by decide +kernel
theorem dX12_countsOf_115 : decode cX12_countsOf 115 = .ok (.iload_n 2, 1) := by decide +kernel
theorem dX12_countsOf_116 : decode cX12_countsOf 116 = .ok (.iaload, 1) := by decide +kernel
theorem dX12_countsOf_117 : decode cX12_countsOf 117 = .ok (.iastore, 1) := by decide +kernel
theorem dX12_countsOf_118 : decode cX12_countsOf 118 = .ok (.aload_n 0, 1) := by decide +kernel
theorem dX12_countsOf_119 : decode cX12_countsOf 119 = .ok (.getfield 84, 3) := by decide +kernel
theorem dX12_countsOf_122 : decode cX12_countsOf 122 = .ok (.iconst 3, 1) := by decide +kernel
theorem dX12_countsOf_123 : decode cX12_countsOf 123 = .ok (.aload_n 0, 1) := by decide +kernel
theorem dX12_countsOf_124 : decode cX12_countsOf 124 = .ok (.getfield 49, 3) := by decide +kernel
theorem dX12_countsOf_127 : decode cX12_countsOf 127 = .ok (.iload_n 2, 1) := by decide +kernel
theorem dX12_countsOf_128 : decode cX12_countsOf 128 = .ok (.iaload, 1) := by decide +kernel
theorem dX12_countsOf_129 : decode cX12_countsOf 129 = .ok (.iastore, 1) := by decide +kernel
theorem dX12_countsOf_130 : decode cX12_countsOf 130 = .ok (.aload_n 0, 1) := by decide +kernel
theorem dX12_countsOf_131 : decode cX12_countsOf 131 = .ok (.getfield 84, 3) := by decide +kernel
theorem dX12_countsOf_134 : decode cX12_countsOf 134 = .ok (.iconst 4, 1) := by decide +kernel
theorem dX12_countsOf_135 : decode cX12_countsOf 135 = .ok (.iload 4, 2) := by decide +kernel
theorem dX12_countsOf_137 : decode cX12_countsOf 137 = .ok (.iastore, 1) := by decide +kernel
theorem dX12_countsOf_138 : decode cX12_countsOf 138 = .ok (.aload_n 0, 1) := by decide +kernel
theorem dX12_countsOf_139 : decode cX12_countsOf 139 = .ok (.getfield 84, 3) := by decide +kernel
theorem dX12_countsOf_142 : decode cX12_countsOf 142 = .ok (.iconst 5, 1) := by decide +kernel
theorem dX12_countsOf_143 : decode cX12_countsOf 143 = .ok (.aload_n 0, 1) := by decide +kernel
theorem dX12_countsOf_144 : decode cX12_countsOf 144 = .ok (.getfield 43, 3) := by decide +kernel
theorem dX12_countsOf_147 : decode cX12_countsOf 147 = .ok (.iload_n 2, 1) := by decide +kernel
theorem dX12_countsOf_148 : decode cX12_countsOf 148 = .ok (.iaload, 1) := by decide +kernel
theorem dX12_countsOf_149 : decode cX12_countsOf 149 = .ok (.aload_n 0, 1) := by decide +kernel
theorem dX12_countsOf_150 : decode cX12_countsOf 150 = .ok (.getfield 34, 3) := by decide +kernel
theorem dX12_countsOf_153 : decode cX12_countsOf 153 = .ok (.iload_n 1, 1) := by decide +kernel
theorem dX12_countsOf_154 : decode cX12_countsOf 154 = .ok (.iaload, 1) := by decide +kernel
theorem dX12_countsOf_155 : decode cX12_countsOf 155 = .ok (.if_icmp .ge 7, 3) := by decide +kernel
theorem dX12_countsOf_158 : decode cX12_countsOf 158 = .ok (.iconst 1, 1) := by decide +kernel
theorem dX12_countsOf_159 : decode cX12_countsOf 159 = .ok (.goto 4, 3) := by decide +kernel
theorem dX12_countsOf_162 : decode cX12_countsOf 162 = .ok (.iconst 0, 1) := by decide +kernel
theorem dX12_countsOf_163 : decode cX12_countsOf 163 = .ok (.iastore, 1) := by decide +kernel
theorem dX12_countsOf_164 : decode cX12_countsOf 164 = .ok (.aload_n 0, 1) := by decide +kernel
theorem dX12_countsOf_165 : decode cX12_countsOf 165 = .ok (.iconst 0, 1) := by decide +kernel
theorem dX12_countsOf_166 : decode cX12_countsOf 166 = .ok (.invokevirtual 297, 3) := by decide +kernel
theorem dX12_countsOf_169 : decode cX12_countsOf 169 = .ok (.ireturn, 1) := by decide +kernel
theorem ok_yX12_countsOf : yOk yX12_countsOf 2 := ⟨by decide +kernel, by decide +kernel, by decide +kernel⟩
def fX12_countsOf_35 (n : Nat) (st : St) (v1 : Int32) (v2 : Int32) (v3 : Int32) (w0 : Int32) : Option (Int32 × St) := if gI st 0 37 = 0 then (if w0 = (1 : Int32) then (some ((0 : Int32), st)) else (gd (inB v2 13) (gd (inB v1 11) (gd (inB v2 13) (if gI st 10 v1.toNatClampNeg = gI st 13 v2.toNatClampNeg then (some (((((10 : Int32) + (gI st 14 v2.toNatClampNeg)) - v3) + (3 : Int32)), st)) else (some (((((10 : Int32) + (gI st 14 v2.toNatClampNeg)) - v3) + (0 : Int32)), st))))))) else (bnd (sI st 25 0 v3) (fun st10 => gd (inB v1 11) (bnd (sI st10 25 1 (gI st10 10 v1.toNatClampNeg)) (fun st13 => gd (inB v2 13) (bnd (sI st13 25 2 (gI st13 13 v2.toNatClampNeg)) (fun st16 => gd (inB v2 13) (bnd (sI st16 25 3 (gI st16 14 v2.toNatClampNeg)) (fun st19 => bnd (sI st19 25 4 w0) (fun st21 => gd (inB v2 13) (gd (inB v1 11) (if gI st21 9 v1.toNatClampNeg ≤ gI st21 12 v2.toNatClampNeg then (bnd (sI st21 25 5 (0 : Int32)) (fun st26 => (fX12_gives n st26 (0 : Int32)).bind (fun r28 => some (r28.1, r28.2)))) else (bnd (sI st21 25 5 (1 : Int32)) (fun st30 => (fX12_gives n st30 (0 : Int32)).bind (fun r32 => some (r32.1, r32.2)))))))))))))))
set_option maxHeartbeats 4000000 in
theorem tX12_countsOf_35 {p : Program} {l : Launch} {e : Env} {s : State} {m : MethodId} {args : Array Value} {below : List Frame} {meth : Method} {c : Code} {X : WX} (C : Amb 43 X p s m args meth c cX12_countsOf 5 RX12) (hr : meth.sig.returnType = some .int) {R : Int32 × St} {n : Nat} : ∀ (st : St) (v1 : Int32) (v2 : Int32) (v3 : Int32) (w0 : Int32) (H : Heap) (locs : List Loc) (ls : Array Slot), Wd EM 43 X s.heap st H locs → lv_has ls 5 [(0, .ref (xq X 0)), (1, .int v1), (2, .int v2), (3, .int v3)] → fX12_countsOf_35 n st v1 v2 v3 w0 = some R → W p l e { frames := 3, cells := 0, slots := 0, locals := 71 } s m args below meth c H locs 0 0 (QI EM 43 X R.1 R.2 below args s) (F0 m 35 ls [.int w0]) := by
  obtain ⟨hx, hb, hml, hown, hts⟩ := id C.1
  intro st v1 v2 v3 w0 H locs ls  hw hl hf
  unfold fX12_countsOf_35 at hf
  refine lv_istore (lv' := [(4, .int w0), (0, .ref (xq X 0)), (1, .int v1), (2, .int v2), (3, .int v3)]) hx hb dX12_countsOf_35 hl (by decide) rfl (fun ls hl => ?_)
  refine lv_aload_n hx hb dX12_countsOf_37 rfl (lv_at hl 1 rfl) ?_
  refine w_get (T := TX12) C hw (by decide) 37 kf_X12_281 (EM_0 X _ _) rfl inA12 (by decide) rfl dX12_countsOf_38 ?_
  refine lv_if_ne (tgt := 87) hx hb dX12_countsOf_41 (by decide) (fun c9 => ?_) (fun c9 => ?_)
  · replace hf := ite_f hf c9
    refine lv_aload_n hx hb dX12_countsOf_87 rfl (lv_at hl 1 rfl) ?_
    refine w_get (T := TX12) C hw (by decide) 35 kf_X12_84 (EM_0 X _ _) rfl inA12 (by decide) rfl dX12_countsOf_88 ?_
    refine lv_iconst (v := 0) hx hb dX12_countsOf_91 (by decide) ?_
    refine lv_iload_n hx hb dX12_countsOf_92 rfl (lv_at hl 4 rfl) ?_
    obtain ⟨st10, es11⟩ : ∃ z : St, z = sI st 25 0 v3 := ⟨_, rfl⟩
    replace hf := bnd_nm hf es11
    refine w_iast C hw (by decide) (fun f9 => EM_25 X f9 _) (by decide) (show (0 : Int32).toNatClampNeg = 0 by decide) dX12_countsOf_93 (fun H locs hw => ?_)
    rw [← es11] at hw
    refine lv_aload_n hx hb dX12_countsOf_94 rfl (lv_at hl 1 rfl) ?_
    refine w_get (T := TX12) C hw (by decide) 35 kf_X12_84 (EM_0 X _ _) rfl inA12 (by decide) rfl dX12_countsOf_95 ?_
    refine lv_iconst (v := 1) hx hb dX12_countsOf_98 (by decide) ?_
    refine lv_aload_n hx hb dX12_countsOf_99 rfl (lv_at hl 1 rfl) ?_
    refine w_get (T := TX12) C hw (by decide) 12 kf_X12_37 (EM_0 X _ _) rfl inA12 (by decide) rfl dX12_countsOf_100 ?_
    refine lv_iload_n hx hb dX12_countsOf_103 rfl (lv_at hl 2 rfl) ?_
    obtain ⟨h12, hf⟩ := gd_some hf
    refine w_iald C hw (by decide) (EM_10 X _ _) h12 rfl dX12_countsOf_104 ?_
    obtain ⟨st13, es14⟩ : ∃ z : St, z = sI st10 25 1 (gI st10 10 v1.toNatClampNeg) := ⟨_, rfl⟩
    replace hf := bnd_nm hf es14
    refine w_iast C hw (by decide) (fun f9 => EM_25 X f9 _) (by decide) (show (1 : Int32).toNatClampNeg = 1 by decide) dX12_countsOf_105 (fun H locs hw => ?_)
    rw [← es14] at hw
    refine lv_aload_n hx hb dX12_countsOf_106 rfl (lv_at hl 1 rfl) ?_
    refine w_get (T := TX12) C hw (by decide) 35 kf_X12_84 (EM_0 X _ _) rfl inA12 (by decide) rfl dX12_countsOf_107 ?_
    refine lv_iconst (v := 2) hx hb dX12_countsOf_110 (by decide) ?_
    refine lv_aload_n hx hb dX12_countsOf_111 rfl (lv_at hl 1 rfl) ?_
    refine w_get (T := TX12) C hw (by decide) 16 kf_X12_46 (EM_0 X _ _) rfl inA12 (by decide) rfl dX12_countsOf_112 ?_
    refine lv_iload_n hx hb dX12_countsOf_115 rfl (lv_at hl 3 rfl) ?_
    obtain ⟨h15, hf⟩ := gd_some hf
    refine w_iald C hw (by decide) (EM_13 X _ _) h15 rfl dX12_countsOf_116 ?_
    obtain ⟨st16, es17⟩ : ∃ z : St, z = sI st13 25 2 (gI st13 13 v2.toNatClampNeg) := ⟨_, rfl⟩
    replace hf := bnd_nm hf es17
    refine w_iast C hw (by decide) (fun f9 => EM_25 X f9 _) (by decide) (show (2 : Int32).toNatClampNeg = 2 by decide) dX12_countsOf_117 (fun H locs hw => ?_)
    rw [← es17] at hw
    refine lv_aload_n hx hb dX12_countsOf_118 rfl (lv_at hl 1 rfl) ?_
    refine w_get (T := TX12) C hw (by decide) 35 kf_X12_84 (EM_0 X _ _) rfl inA12 (by decide) rfl dX12_countsOf_119 ?_
    refine lv_iconst (v := 3) hx hb dX12_countsOf_122 (by decide) ?_
    refine lv_aload_n hx hb dX12_countsOf_123 rfl (lv_at hl 1 rfl) ?_
    refine w_get (T := TX12) C hw (by decide) 17 kf_X12_49 (EM_0 X _ _) rfl inA12 (by decide) rfl dX12_countsOf_124 ?_
    refine lv_iload_n hx hb dX12_countsOf_127 rfl (lv_at hl 3 rfl) ?_
    obtain ⟨h18, hf⟩ := gd_some hf
    refine w_iald C hw (by decide) (EM_14 X _ _) h18 rfl dX12_countsOf_128 ?_
    obtain ⟨st19, es20⟩ : ∃ z : St, z = sI st16 25 3 (gI st16 14 v2.toNatClampNeg) := ⟨_, rfl⟩
    replace hf := bnd_nm hf es20
    refine w_iast C hw (by decide) (fun f9 => EM_25 X f9 _) (by decide) (show (3 : Int32).toNatClampNeg = 3 by decide) dX12_countsOf_129 (fun H locs hw => ?_)
    rw [← es20] at hw
    refine lv_aload_n hx hb dX12_countsOf_130 rfl (lv_at hl 1 rfl) ?_
    refine w_get (T := TX12) C hw (by decide) 35 kf_X12_84 (EM_0 X _ _) rfl inA12 (by decide) rfl dX12_countsOf_131 ?_
    refine lv_iconst (v := 4) hx hb dX12_countsOf_134 (by decide) ?_
    refine lv_iload hx hb dX12_countsOf_135 (lv_at hl 0 rfl) ?_
    obtain ⟨st21, es22⟩ : ∃ z : St, z = sI st19 25 4 w0 := ⟨_, rfl⟩
    replace hf := bnd_nm hf es22
    refine w_iast C hw (by decide) (fun f9 => EM_25 X f9 _) (by decide) (show (4 : Int32).toNatClampNeg = 4 by decide) dX12_countsOf_137 (fun H locs hw => ?_)
    rw [← es22] at hw
    refine lv_aload_n hx hb dX12_countsOf_138 rfl (lv_at hl 1 rfl) ?_
    refine w_get (T := TX12) C hw (by decide) 35 kf_X12_84 (EM_0 X _ _) rfl inA12 (by decide) rfl dX12_countsOf_139 ?_
    refine lv_iconst (v := 5) hx hb dX12_countsOf_142 (by decide) ?_
    refine lv_aload_n hx hb dX12_countsOf_143 rfl (lv_at hl 1 rfl) ?_
    refine w_get (T := TX12) C hw (by decide) 15 kf_X12_43 (EM_0 X _ _) rfl inA12 (by decide) rfl dX12_countsOf_144 ?_
    refine lv_iload_n hx hb dX12_countsOf_147 rfl (lv_at hl 3 rfl) ?_
    obtain ⟨h23, hf⟩ := gd_some hf
    refine w_iald C hw (by decide) (EM_12 X _ _) h23 rfl dX12_countsOf_148 ?_
    refine lv_aload_n hx hb dX12_countsOf_149 rfl (lv_at hl 1 rfl) ?_
    refine w_get (T := TX12) C hw (by decide) 11 kf_X12_34 (EM_0 X _ _) rfl inA12 (by decide) rfl dX12_countsOf_150 ?_
    refine lv_iload_n hx hb dX12_countsOf_153 rfl (lv_at hl 2 rfl) ?_
    obtain ⟨h24, hf⟩ := gd_some hf
    refine w_iald C hw (by decide) (EM_9 X _ _) h24 rfl dX12_countsOf_154 ?_
    refine lv_icmp_ge (tgt := 162) hx hb dX12_countsOf_155 (by decide) (fun c25 => ?_) (fun c25 => ?_)
    · replace hf := ite_t hf c25
      refine lv_iconst (v := 0) hx hb dX12_countsOf_162 (by decide) ?_
      obtain ⟨st26, es27⟩ : ∃ z : St, z = sI st21 25 5 (0 : Int32) := ⟨_, rfl⟩
      replace hf := bnd_nm hf es27
      refine w_iast C hw (by decide) (fun f9 => EM_25 X f9 _) (by decide) (show (5 : Int32).toNatClampNeg = 5 by decide) dX12_countsOf_163 (fun H locs hw => ?_)
      rw [← es27] at hw
      refine lv_aload_n hx hb dX12_countsOf_164 rfl (lv_at hl 1 rfl) ?_
      refine lv_iconst (v := 0) hx hb dX12_countsOf_165 (by decide) ?_
      obtain ⟨r28, k29, hf⟩ := bd_some hf
      refine w_goI hw (w_runV (rest := []) C hw (zX12_gives _ _ n st26 (0 : Int32) r28 k29) (by decide) (EM_0 X _ _) rfl km_X12_297 ki_yX12_gives kv_X12_gives kz_X12 kc_X12_gives rfl ok_yX12_gives ⟨Nat.le_of_ble_eq_true rfl, Nat.le_of_ble_eq_true rfl⟩ rfl rfl rfl rfl hl.1 (Nat.le_of_ble_eq_true rfl) dX12_countsOf_166 ⟨Nat.zero_le _, Nat.zero_le _⟩) (fun H locs hw => ?_)
      exact w_iret C hw hr (so2 hf).1 (so2 hf).2 dX12_countsOf_169
    · replace hf := ite_f hf c25
      refine lv_iconst (v := 1) hx hb dX12_countsOf_158 (by decide) ?_
      refine lv_goto (tgt := 163) hx hb dX12_countsOf_159 (by decide) ?_
      obtain ⟨st30, es31⟩ : ∃ z : St, z = sI st21 25 5 (1 : Int32) := ⟨_, rfl⟩
      replace hf := bnd_nm hf es31
      refine w_iast C hw (by decide) (fun f9 => EM_25 X f9 _) (by decide) (show (5 : Int32).toNatClampNeg = 5 by decide) dX12_countsOf_163 (fun H locs hw => ?_)
      rw [← es31] at hw
      refine lv_aload_n hx hb dX12_countsOf_164 rfl (lv_at hl 1 rfl) ?_
      refine lv_iconst (v := 0) hx hb dX12_countsOf_165 (by decide) ?_
      obtain ⟨r32, k33, hf⟩ := bd_some hf
      refine w_goI hw (w_runV (rest := []) C hw (zX12_gives _ _ n st30 (0 : Int32) r32 k33) (by decide) (EM_0 X _ _) rfl km_X12_297 ki_yX12_gives kv_X12_gives kz_X12 kc_X12_gives rfl ok_yX12_gives ⟨Nat.le_of_ble_eq_true rfl, Nat.le_of_ble_eq_true rfl⟩ rfl rfl rfl rfl hl.1 (Nat.le_of_ble_eq_true rfl) dX12_countsOf_166 ⟨Nat.zero_le _, Nat.zero_le _⟩) (fun H locs hw => ?_)
      exact w_iret C hw hr (so2 hf).1 (so2 hf).2 dX12_countsOf_169
  · replace hf := ite_t hf c9
    refine lv_iload hx hb dX12_countsOf_44 (lv_at hl 0 rfl) ?_
    refine lv_iconst (v := 1) hx hb dX12_countsOf_46 (by decide) ?_
    refine lv_icmp_ne (tgt := 54) hx hb dX12_countsOf_47 (by decide) (fun c34 => ?_) (fun c34 => ?_)
    · replace hf := ite_f hf c34
      refine lv_bipush (v := 10) hx hb dX12_countsOf_54 (by decide) ?_
      refine lv_aload_n hx hb dX12_countsOf_56 rfl (lv_at hl 1 rfl) ?_
      refine w_get (T := TX12) C hw (by decide) 17 kf_X12_49 (EM_0 X _ _) rfl inA12 (by decide) rfl dX12_countsOf_57 ?_
      refine lv_iload_n hx hb dX12_countsOf_60 rfl (lv_at hl 3 rfl) ?_
      obtain ⟨h35, hf⟩ := gd_some hf
      refine w_iald C hw (by decide) (EM_14 X _ _) h35 rfl dX12_countsOf_61 ?_
      refine lv_iadd hx hb dX12_countsOf_62 ?_
      refine lv_iload_n hx hb dX12_countsOf_63 rfl (lv_at hl 4 rfl) ?_
      refine lv_isub hx hb dX12_countsOf_64 ?_
      refine lv_aload_n hx hb dX12_countsOf_65 rfl (lv_at hl 1 rfl) ?_
      refine w_get (T := TX12) C hw (by decide) 12 kf_X12_37 (EM_0 X _ _) rfl inA12 (by decide) rfl dX12_countsOf_66 ?_
      refine lv_iload_n hx hb dX12_countsOf_69 rfl (lv_at hl 2 rfl) ?_
      obtain ⟨h36, hf⟩ := gd_some hf
      refine w_iald C hw (by decide) (EM_10 X _ _) h36 rfl dX12_countsOf_70 ?_
      refine lv_aload_n hx hb dX12_countsOf_71 rfl (lv_at hl 1 rfl) ?_
      refine w_get (T := TX12) C hw (by decide) 16 kf_X12_46 (EM_0 X _ _) rfl inA12 (by decide) rfl dX12_countsOf_72 ?_
      refine lv_iload_n hx hb dX12_countsOf_75 rfl (lv_at hl 3 rfl) ?_
      obtain ⟨h37, hf⟩ := gd_some hf
      refine w_iald C hw (by decide) (EM_13 X _ _) h37 rfl dX12_countsOf_76 ?_
      refine lv_icmp_ne (tgt := 84) hx hb dX12_countsOf_77 (by decide) (fun c38 => ?_) (fun c38 => ?_)
      · replace hf := ite_f hf c38
        refine lv_iconst (v := 0) hx hb dX12_countsOf_84 (by decide) ?_
        refine lv_iadd hx hb dX12_countsOf_85 ?_
        exact w_iret C hw hr (so2 hf).1 (so2 hf).2 dX12_countsOf_86
      · replace hf := ite_t hf c38
        refine lv_iconst (v := 3) hx hb dX12_countsOf_80 (by decide) ?_
        refine lv_goto (tgt := 85) hx hb dX12_countsOf_81 (by decide) ?_
        refine lv_iadd hx hb dX12_countsOf_85 ?_
        exact w_iret C hw hr (so2 hf).1 (so2 hf).2 dX12_countsOf_86
    · replace hf := ite_t hf c34
      refine lv_iconst (v := 0) hx hb dX12_countsOf_50 (by decide) ?_
      refine lv_goto (tgt := 86) hx hb dX12_countsOf_51 (by decide) ?_
      exact w_iret C hw hr (so2 hf).1 (so2 hf).2 dX12_countsOf_86
def fX12_countsOf (n : Nat) (st : St) (a1 : Int32) (a2 : Int32) : Option (Int32 × St) := gd (inB a2 13) (gd (inB a1 11) (bnd ((fX12_apart (gI st 12 a2.toNatClampNeg) (gI st 9 a1.toNatClampNeg))) (fun x3 => (fX12_finder n st a1).bind (fun r5 => gd (inB a2 13) (if r5 = gI st 11 a2.toNatClampNeg then (fX12_countsOf_35 n st a1 a2 x3 (1 : Int32)) else (fX12_countsOf_35 n st a1 a2 x3 (0 : Int32)))))))
set_option maxHeartbeats 4000000 in
theorem zX12_countsOf (l : Launch) (X : WX) (n : Nat) (st : St) (a1 : Int32) (a2 : Int32) (R : Int32 × St) (hf : fX12_countsOf n st a1 a2 = some R) : CtI l yX12_countsOf cX12_countsOf 5 .int ({ frames := 3, cells := 0, slots := 0, locals := 71 }) EM 43 X [.ref (xq X 0), .int a1, .int a2] st R.1 R.2 := by
  refine ct_in (own := RX12) (by decide +kernel) rfl (Nat.le_of_ble_eq_true rfl) (fun p e s m below meth c C hr hw ls hl => ?_)
  obtain ⟨hx, hb, hml, hown, hts⟩ := id C.1
  have hl : lv_has ls 5 [(0, .ref (xq X 0)), (1, .int a1), (2, .int a2)] := hl
  unfold fX12_countsOf at hf
  refine lv_aload_n hx hb dX12_countsOf_0 rfl (lv_at hl 0 rfl) ?_
  refine w_get (T := TX12) C hw (by decide) 15 kf_X12_43 (EM_0 X _ _) rfl inA12 (by decide) rfl dX12_countsOf_1 ?_
  refine lv_iload_n hx hb dX12_countsOf_4 rfl (lv_at hl 2 rfl) ?_
  obtain ⟨h1, hf⟩ := gd_some hf
  refine w_iald C hw (by decide) (EM_12 X _ _) h1 rfl dX12_countsOf_5 ?_
  refine lv_aload_n hx hb dX12_countsOf_6 rfl (lv_at hl 0 rfl) ?_
  refine w_get (T := TX12) C hw (by decide) 11 kf_X12_34 (EM_0 X _ _) rfl inA12 (by decide) rfl dX12_countsOf_7 ?_
  refine lv_iload_n hx hb dX12_countsOf_10 rfl (lv_at hl 1 rfl) ?_
  obtain ⟨h2, hf⟩ := gd_some hf
  refine w_iald C hw (by decide) (EM_9 X _ _) h2 rfl dX12_countsOf_11 ?_
  refine w_goI hw (w_runS (rest := []) C hw (zX12_apart _ _ st (gI st 12 a2.toNatClampNeg) (gI st 9 a1.toNatClampNeg)) km_X12_291 kt_yX12_apart kz_X12 kc_X12_apart ok_yX12_apart ⟨Nat.le_of_ble_eq_true rfl, Nat.le_of_ble_eq_true rfl⟩ rfl rfl rfl rfl hl.1 (Nat.le_of_ble_eq_true rfl) dX12_countsOf_12 ⟨Nat.zero_le _, Nat.zero_le _⟩) (fun H locs hw => ?_)
  refine lv_topi (fun x3 e4 => ?_)
  replace hf := bnd_nm hf e4
  refine lv_istore_n (lv' := [(3, .int x3), (0, .ref (xq X 0)), (1, .int a1), (2, .int a2)]) hx hb dX12_countsOf_15 rfl hl (by decide) rfl (fun ls hl => ?_)
  refine lv_aload_n hx hb dX12_countsOf_16 rfl (lv_at hl 1 rfl) ?_
  refine lv_iload_n hx hb dX12_countsOf_17 rfl (lv_at hl 2 rfl) ?_
  obtain ⟨r5, k6, hf⟩ := bd_some hf
  refine w_goI hw (w_runV (rest := []) C hw (zX12_finder _ _ n st a1 r5 k6) (by decide) (EM_0 X _ _) rfl km_X12_294 ki_yX12_finder kv_X12_finder kz_X12 kc_X12_finder rfl ok_yX12_finder ⟨Nat.le_of_ble_eq_true rfl, Nat.le_of_ble_eq_true rfl⟩ rfl rfl rfl rfl hl.1 (Nat.le_of_ble_eq_true rfl) dX12_countsOf_18 ⟨Nat.zero_le _, Nat.zero_le _⟩) (fun H locs hw => ?_)
  refine lv_aload_n hx hb dX12_countsOf_21 rfl (lv_at hl 1 rfl) ?_
  refine w_get (T := TX12) C hw (by decide) 14 kf_X12_40 (EM_0 X _ _) rfl inA12 (by decide) rfl dX12_countsOf_22 ?_
  refine lv_iload_n hx hb dX12_countsOf_25 rfl (lv_at hl 3 rfl) ?_
  obtain ⟨h7, hf⟩ := gd_some hf
  refine w_iald C hw (by decide) (EM_11 X _ _) h7 rfl dX12_countsOf_26 ?_
  refine lv_icmp_ne (tgt := 34) hx hb dX12_countsOf_27 (by decide) (fun c8 => ?_) (fun c8 => ?_)
  · replace hf := ite_f hf c8
    refine lv_iconst (v := 0) hx hb dX12_countsOf_34 (by decide) ?_
    exact tX12_countsOf_35 C hr st a1 a2 x3 (0 : Int32) _ _ _ hw (lv_sub hl [1, 2, 3, 0] rfl) hf
  · replace hf := ite_t hf c8
    refine lv_iconst (v := 1) hx hb dX12_countsOf_30 (by decide) ?_
    refine lv_goto (tgt := 35) hx hb dX12_countsOf_31 (by decide) ?_
    exact tX12_countsOf_35 C hr st a1 a2 x3 (1 : Int32) _ _ _ hw (lv_sub hl [1, 2, 3, 0] rfl) hf
theorem dX12_counts_0 : decode cX12_counts 0 = .ok (.iload_n 1, 1) := by decide +kernel
theorem dX12_counts_1 : decode cX12_counts 1 = .ok (.ifCond .lt 40, 3) := by decide +kernel
theorem dX12_counts_4 : decode cX12_counts 4 = .ok (.aload_n 0, 1) := by decide +kernel
theorem dX12_counts_5 : decode cX12_counts 5 = .ok (.iload_n 1, 1) := by decide +kernel
theorem dX12_counts_6 : decode cX12_counts 6 = .ok (.bipush 100, 2) := by decide +kernel
theorem dX12_counts_8 : decode cX12_counts 8 = .ok (.idiv, 1) := by decide +kernel
theorem dX12_counts_9 : decode cX12_counts 9 = .ok (.invokevirtual 197, 3) := by decide +kernel
theorem dX12_counts_12 : decode cX12_counts 12 = .ok (.ifCond .eq 29, 3) := by decide +kernel
theorem dX12_counts_15 : decode cX12_counts 15 = .ok (.aload_n 0, 1) := by decide +kernel
theorem dX12_counts_16 : decode cX12_counts 16 = .ok (.iload_n 1, 1) := by decide +kernel
theorem dX12_counts_17 : decode cX12_counts 17 = .ok (.bipush 100, 2) := by decide +kernel
theorem dX12_counts_19 : decode cX12_counts 19 = .ok (.irem, 1) := by decide +kernel
theorem dX12_counts_20 : decode cX12_counts 20 = .ok (.invokevirtual 200, 3) := by decide +kernel
theorem dX12_counts_23 : decode cX12_counts 23 = .ok (.ifCond .eq 18, 3) := by decide +kernel
theorem dX12_counts_26 : decode cX12_counts 26 = .ok (.aload_n 0, 1) := by decide +kernel
theorem dX12_counts_27 : decode cX12_counts 27 = .ok (.iload_n 1, 1) := by decide +kernel
theorem dX12_counts_28 : decode cX12_counts 28 = .ok (.bipush 100, 2) := by decide +kernel
theorem dX12_counts_30 : decode cX12_counts 30 = .ok (.idiv, 1) := by decide +kernel
theorem dX12_counts_31 : decode cX12_counts 31 = .ok (.iload_n 1, 1) := by decide +kernel
theorem dX12_counts_32 : decode cX12_counts 32 = .ok (.bipush 100, 2) := by decide +kernel
theorem dX12_counts_34 : decode cX12_counts 34 = .ok (.irem, 1) := by decide +kernel
theorem dX12_counts_35 : decode cX12_counts 35 = .ok (.invokevirtual 300, 3) := by decide +kernel
theorem dX12_counts_38 : decode cX12_counts 38 = .ok (.goto 5, 3) := by decide +kernel
theorem dX12_counts_41 : decode cX12_counts 41 = .ok (.ldc 213, 2) := by decide +kernel
theorem dX12_counts_43 : decode cX12_counts 43 = .ok (.ireturn, 1) := by decide +kernel
theorem ok_yX12_counts : yOk yX12_counts 1 := ⟨by decide +kernel, by decide +kernel, by decide +kernel⟩
def fX12_counts (n : Nat) (st : St) (a1 : Int32) : Option (Int32 × St) := if a1 < 0 then (some ((-2000000000 : Int32), st)) else (if bI (fX12_isFall st (a1 / (100 : Int32))) = 0 then (some ((-2000000000 : Int32), st)) else (if bI (fX12_isCry st (rmI a1 (100 : Int32))) = 0 then (some ((-2000000000 : Int32), st)) else ((fX12_countsOf n st (a1 / (100 : Int32)) (rmI a1 (100 : Int32))).bind (fun r4 => some (r4.1, r4.2)))))
set_option maxHeartbeats 4000000 in
theorem zX12_counts (l : Launch) (X : WX) (n : Nat) (st : St) (a1 : Int32) (R : Int32 × St) (hf : fX12_counts n st a1 = some R) : CtI l yX12_counts cX12_counts 2 .int ({ frames := 4, cells := 0, slots := 0, locals := 95 }) EM 43 X [.ref (xq X 0), .int a1] st R.1 R.2 := by
  refine ct_in (own := RX12) (by decide +kernel) rfl (Nat.le_of_ble_eq_true rfl) (fun p e s m below meth c C hr hw ls hl => ?_)
  obtain ⟨hx, hb, hml, hown, hts⟩ := id C.1
  have hl : lv_has ls 2 [(0, .ref (xq X 0)), (1, .int a1)] := hl
  unfold fX12_counts at hf
  refine lv_iload_n hx hb dX12_counts_0 rfl (lv_at hl 1 rfl) ?_
  refine lv_if_lt (tgt := 41) hx hb dX12_counts_1 (by decide) (fun c1 => ?_) (fun c1 => ?_)
  · replace hf := ite_t hf c1
    refine lv_ldc (v := -2000000000) hx hb hown (hts _ kn_X12_213) dX12_counts_41 ?_
    exact w_iret C hw hr (so2 hf).1 (so2 hf).2 dX12_counts_43
  · replace hf := ite_f hf c1
    refine lv_aload_n hx hb dX12_counts_4 rfl (lv_at hl 0 rfl) ?_
    refine lv_iload_n hx hb dX12_counts_5 rfl (lv_at hl 1 rfl) ?_
    refine lv_bipush (v := 100) hx hb dX12_counts_6 (by decide) ?_
    refine lv_idiv hx hb dX12_counts_8 (by decide) ?_
    refine w_goI hw (w_runV (rest := []) C hw (zX12_isFall _ _ st (a1 / (100 : Int32))) (by decide) (EM_0 X _ _) rfl km_X12_197 ki_yX12_isFall kv_X12_isFall kz_X12 kc_X12_isFall rfl ok_yX12_isFall ⟨Nat.le_of_ble_eq_true rfl, Nat.le_of_ble_eq_true rfl⟩ rfl rfl rfl rfl hl.1 (Nat.le_of_ble_eq_true rfl) dX12_counts_9 ⟨Nat.zero_le _, Nat.zero_le _⟩) (fun H locs hw => ?_)
    refine lv_if_eq (tgt := 41) hx hb dX12_counts_12 (by decide) (fun c2 => ?_) (fun c2 => ?_)
    · replace hf := ite_t hf c2
      refine lv_ldc (v := -2000000000) hx hb hown (hts _ kn_X12_213) dX12_counts_41 ?_
      exact w_iret C hw hr (so2 hf).1 (so2 hf).2 dX12_counts_43
    · replace hf := ite_f hf c2
      refine lv_aload_n hx hb dX12_counts_15 rfl (lv_at hl 0 rfl) ?_
      refine lv_iload_n hx hb dX12_counts_16 rfl (lv_at hl 1 rfl) ?_
      refine lv_bipush (v := 100) hx hb dX12_counts_17 (by decide) ?_
      refine w_irem C (by decide) dX12_counts_19 ?_
      refine w_goI hw (w_runV (rest := []) C hw (zX12_isCry _ _ st (rmI a1 (100 : Int32))) (by decide) (EM_0 X _ _) rfl km_X12_200 ki_yX12_isCry kv_X12_isCry kz_X12 kc_X12_isCry rfl ok_yX12_isCry ⟨Nat.le_of_ble_eq_true rfl, Nat.le_of_ble_eq_true rfl⟩ rfl rfl rfl rfl hl.1 (Nat.le_of_ble_eq_true rfl) dX12_counts_20 ⟨Nat.zero_le _, Nat.zero_le _⟩) (fun H locs hw => ?_)
      refine lv_if_eq (tgt := 41) hx hb dX12_counts_23 (by decide) (fun c3 => ?_) (fun c3 => ?_)
      · replace hf := ite_t hf c3
        refine lv_ldc (v := -2000000000) hx hb hown (hts _ kn_X12_213) dX12_counts_41 ?_
        exact w_iret C hw hr (so2 hf).1 (so2 hf).2 dX12_counts_43
      · replace hf := ite_f hf c3
        refine lv_aload_n hx hb dX12_counts_26 rfl (lv_at hl 0 rfl) ?_
        refine lv_iload_n hx hb dX12_counts_27 rfl (lv_at hl 1 rfl) ?_
        refine lv_bipush (v := 100) hx hb dX12_counts_28 (by decide) ?_
        refine lv_idiv hx hb dX12_counts_30 (by decide) ?_
        refine lv_iload_n hx hb dX12_counts_31 rfl (lv_at hl 1 rfl) ?_
        refine lv_bipush (v := 100) hx hb dX12_counts_32 (by decide) ?_
        refine w_irem C (by decide) dX12_counts_34 ?_
        obtain ⟨r4, k5, hf⟩ := bd_some hf
        refine w_goI hw (w_runV (rest := []) C hw (zX12_countsOf _ _ n st (a1 / (100 : Int32)) (rmI a1 (100 : Int32)) r4 k5) (by decide) (EM_0 X _ _) rfl km_X12_300 ki_yX12_countsOf kv_X12_countsOf kz_X12 kc_X12_countsOf rfl ok_yX12_countsOf ⟨Nat.le_of_ble_eq_true rfl, Nat.le_of_ble_eq_true rfl⟩ rfl rfl rfl rfl hl.1 (Nat.le_of_ble_eq_true rfl) dX12_counts_35 ⟨Nat.zero_le _, Nat.zero_le _⟩) (fun H locs hw => ?_)
        refine lv_goto (tgt := 43) hx hb dX12_counts_38 (by decide) ?_
        exact w_iret C hw hr (so2 hf).1 (so2 hf).2 dX12_counts_43
theorem dX12_mostOf_0 : decode cX12_mostOf 0 = .ok (.iconst 0, 1) := by decide +kernel
theorem dX12_mostOf_1 : decode cX12_mostOf 1 = .ok (.istore_n 2, 1) := by decide +kernel
theorem dX12_mostOf_2 : decode cX12_mostOf 2 = .ok (.iconst 0, 1) := by decide +kernel
theorem dX12_mostOf_3 : decode cX12_mostOf 3 = .ok (.istore_n 3, 1) := by decide +kernel
theorem dX12_mostOf_4 : decode cX12_mostOf 4 = .ok (.iload_n 3, 1) := by decide +kernel
theorem dX12_mostOf_5 : decode cX12_mostOf 5 = .ok (.aload_n 0, 1) := by decide +kernel
theorem dX12_mostOf_6 : decode cX12_mostOf 6 = .ok (.getfield 154, 3) := by decide +kernel
theorem dX12_mostOf_9 : decode cX12_mostOf 9 = .ok (.if_icmp .ge 26, 3) := by decide +kernel
theorem dX12_mostOf_12 : decode cX12_mostOf 12 = .ok (.aload_n 0, 1) := by decide +kernel
theorem dX12_mostOf_13 : decode cX12_mostOf 13 = .ok (.iload_n 1, 1) := by decide +kernel
theorem dX12_mostOf_14 : decode cX12_mostOf 14 = .ok (.iload_n 3, 1) := by decide +kernel
theorem dX12_mostOf_15 : decode cX12_mostOf 15 = .ok (.invokevirtual 300, 3) := by decide +kernel
theorem dX12_mostOf_18 : decode cX12_mostOf 18 = .ok (.istore 4, 2) := by decide +kernel
theorem dX12_mostOf_20 : decode cX12_mostOf 20 = .ok (.iload 4, 2) := by decide +kernel
theorem dX12_mostOf_22 : decode cX12_mostOf 22 = .ok (.iload_n 2, 1) := by decide +kernel
theorem dX12_mostOf_23 : decode cX12_mostOf 23 = .ok (.if_icmp .le 6, 3) := by decide +kernel
theorem dX12_mostOf_26 : decode cX12_mostOf 26 = .ok (.iload 4, 2) := by decide +kernel
theorem dX12_mostOf_28 : decode cX12_mostOf 28 = .ok (.istore_n 2, 1) := by decide +kernel
theorem dX12_mostOf_29 : decode cX12_mostOf 29 = .ok (.iinc 3 1, 3) := by decide +kernel
theorem dX12_mostOf_32 : decode cX12_mostOf 32 = .ok (.goto (-28), 3) := by decide +kernel
theorem dX12_mostOf_35 : decode cX12_mostOf 35 = .ok (.iload_n 2, 1) := by decide +kernel
theorem dX12_mostOf_36 : decode cX12_mostOf 36 = .ok (.ireturn, 1) := by decide +kernel
theorem ok_yX12_mostOf : yOk yX12_mostOf 1 := ⟨by decide +kernel, by decide +kernel, by decide +kernel⟩
def fX12_mostOf_4 (n : Nat) : Nat → St → Int32 → Int32 → Int32 → Option (Int32 × St)
  | 0, _, _, _, _ => none
  | k + 1, st, v1, v2, v3 => if gI st 0 13 ≤ v3 then (some (v2, st)) else ((fX12_countsOf n st v1 v3).bind (fun r2 => if r2.1 ≤ v2 then (bnd (v3 + (1 : Int32)) (fun x5 => fX12_mostOf_4 n k r2.2 v1 v2 x5)) else (bnd (v3 + (1 : Int32)) (fun x7 => fX12_mostOf_4 n k r2.2 v1 r2.1 x7))))
set_option maxHeartbeats 4000000 in
theorem tX12_mostOf_4 {p : Program} {l : Launch} {e : Env} {s : State} {m : MethodId} {args : Array Value} {below : List Frame} {meth : Method} {c : Code} {X : WX} (C : Amb 43 X p s m args meth c cX12_mostOf 5 RX12) (hr : meth.sig.returnType = some .int) {R : Int32 × St} {n : Nat} : ∀ (k : Nat) (st : St) (v1 : Int32) (v2 : Int32) (v3 : Int32) (H : Heap) (locs : List Loc) (ls : Array Slot), Wd EM 43 X s.heap st H locs → lv_has ls 5 [(0, .ref (xq X 0)), (1, .int v1), (2, .int v2), (3, .int v3)] → fX12_mostOf_4 n k st v1 v2 v3 = some R → W p l e { frames := 4, cells := 0, slots := 0, locals := 95 } s m args below meth c H locs 0 0 (QI EM 43 X R.1 R.2 below args s) (F0 m 4 ls []) := by
  obtain ⟨hx, hb, hml, hown, hts⟩ := id C.1
  intro k
  induction k with
  | zero => intro st v1 v2 v3 H locs ls  hw hl hf; exact absurd (show none = some R from hf) (fun z => by cases z)
  | succ k ih =>
    intro st v1 v2 v3 H locs ls  hw hl hf
    rw [fX12_mostOf_4] at hf
    refine lv_iload_n hx hb dX12_mostOf_4 rfl (lv_at hl 3 rfl) ?_
    refine lv_aload_n hx hb dX12_mostOf_5 rfl (lv_at hl 0 rfl) ?_
    refine w_get (T := TX12) C hw (by decide) 13 kf_X12_154 (EM_0 X _ _) rfl inA12 (by decide) rfl dX12_mostOf_6 ?_
    refine lv_icmp_ge (tgt := 35) hx hb dX12_mostOf_9 (by decide) (fun c1 => ?_) (fun c1 => ?_)
    · replace hf := ite_t hf c1
      refine lv_iload_n hx hb dX12_mostOf_35 rfl (lv_at hl 2 rfl) ?_
      exact w_iret C hw hr (so2 hf).1 (so2 hf).2 dX12_mostOf_36
    · replace hf := ite_f hf c1
      refine lv_aload_n hx hb dX12_mostOf_12 rfl (lv_at hl 0 rfl) ?_
      refine lv_iload_n hx hb dX12_mostOf_13 rfl (lv_at hl 1 rfl) ?_
      refine lv_iload_n hx hb dX12_mostOf_14 rfl (lv_at hl 3 rfl) ?_
      obtain ⟨r2, k3, hf⟩ := bd_some hf
      refine w_goI hw (w_runV (rest := []) C hw (zX12_countsOf _ _ n st v1 v3 r2 k3) (by decide) (EM_0 X _ _) rfl km_X12_300 ki_yX12_countsOf kv_X12_countsOf kz_X12 kc_X12_countsOf rfl ok_yX12_countsOf ⟨Nat.le_of_ble_eq_true rfl, Nat.le_of_ble_eq_true rfl⟩ rfl rfl rfl rfl hl.1 (Nat.le_of_ble_eq_true rfl) dX12_mostOf_15 ⟨Nat.zero_le _, Nat.zero_le _⟩) (fun H locs hw => ?_)
      refine lv_istore (lv' := [(4, .int r2.1), (0, .ref (xq X 0)), (1, .int v1), (2, .int v2), (3, .int v3)]) hx hb dX12_mostOf_18 hl (by decide) rfl (fun ls hl => ?_)
      refine lv_iload hx hb dX12_mostOf_20 (lv_at hl 0 rfl) ?_
      refine lv_iload_n hx hb dX12_mostOf_22 rfl (lv_at hl 3 rfl) ?_
      refine lv_icmp_le (tgt := 29) hx hb dX12_mostOf_23 (by decide) (fun c4 => ?_) (fun c4 => ?_)
      · replace hf := ite_t hf c4
        obtain ⟨x5, e6⟩ : ∃ z : Int32, z = v3 + (1 : Int32) := ⟨_, rfl⟩
        replace hf := bnd_nm hf e6
        refine lv_iinc (v := x5) (lv' := [(3, .int x5), (4, .int r2.1), (0, .ref (xq X 0)), (1, .int v1), (2, .int v2)]) hx hb dX12_mostOf_29 hl (k := 4) rfl (by rw [e6]; rfl) (by decide) rfl (fun ls hl => ?_)
        refine lv_goto (tgt := 4) hx hb dX12_mostOf_32 (by decide) ?_
        exact ih r2.2 v1 v2 x5 _ _ _ hw (lv_sub hl [2, 3, 4, 0] rfl) hf
      · replace hf := ite_f hf c4
        refine lv_iload hx hb dX12_mostOf_26 (lv_at hl 0 rfl) ?_
        refine lv_istore_n (lv' := [(2, .int r2.1), (4, .int r2.1), (0, .ref (xq X 0)), (1, .int v1), (3, .int v3)]) hx hb dX12_mostOf_28 rfl hl (by decide) rfl (fun ls hl => ?_)
        obtain ⟨x7, e8⟩ : ∃ z : Int32, z = v3 + (1 : Int32) := ⟨_, rfl⟩
        replace hf := bnd_nm hf e8
        refine lv_iinc (v := x7) (lv' := [(3, .int x7), (2, .int r2.1), (4, .int r2.1), (0, .ref (xq X 0)), (1, .int v1)]) hx hb dX12_mostOf_29 hl (k := 4) rfl (by rw [e8]; rfl) (by decide) rfl (fun ls hl => ?_)
        refine lv_goto (tgt := 4) hx hb dX12_mostOf_32 (by decide) ?_
        exact ih r2.2 v1 r2.1 x7 _ _ _ hw (lv_sub hl [3, 4, 1, 0] rfl) hf
def fX12_mostOf (n : Nat) (st : St) (a1 : Int32) : Option (Int32 × St) := fX12_mostOf_4 n n st a1 (0 : Int32) (0 : Int32)
set_option maxHeartbeats 4000000 in
theorem zX12_mostOf (l : Launch) (X : WX) (n : Nat) (st : St) (a1 : Int32) (R : Int32 × St) (hf : fX12_mostOf n st a1 = some R) : CtI l yX12_mostOf cX12_mostOf 5 .int ({ frames := 4, cells := 0, slots := 0, locals := 95 }) EM 43 X [.ref (xq X 0), .int a1] st R.1 R.2 := by
  refine ct_in (own := RX12) (by decide +kernel) rfl (Nat.le_of_ble_eq_true rfl) (fun p e s m below meth c C hr hw ls hl => ?_)
  obtain ⟨hx, hb, hml, hown, hts⟩ := id C.1
  have hl : lv_has ls 5 [(0, .ref (xq X 0)), (1, .int a1)] := hl
  unfold fX12_mostOf at hf
  refine lv_iconst (v := 0) hx hb dX12_mostOf_0 (by decide) ?_
  refine lv_istore_n (lv' := [(2, .int (0 : Int32)), (0, .ref (xq X 0)), (1, .int a1)]) hx hb dX12_mostOf_1 rfl hl (by decide) rfl (fun ls hl => ?_)
  refine lv_iconst (v := 0) hx hb dX12_mostOf_2 (by decide) ?_
  refine lv_istore_n (lv' := [(3, .int (0 : Int32)), (2, .int (0 : Int32)), (0, .ref (xq X 0)), (1, .int a1)]) hx hb dX12_mostOf_3 rfl hl (by decide) rfl (fun ls hl => ?_)
  exact tX12_mostOf_4 C hr n st a1 (0 : Int32) (0 : Int32) _ _ _ hw (lv_sub hl [2, 3, 1, 0] rfl) hf
theorem dX12_haveIt_0 : decode cX12_haveIt 0 = .ok (.iconst 0, 1) := by decide +kernel
theorem dX12_haveIt_1 : decode cX12_haveIt 1 = .ok (.istore_n 2, 1) := by decide +kernel
theorem dX12_haveIt_2 : decode cX12_haveIt 2 = .ok (.iconst 0, 1) := by decide +kernel
theorem dX12_haveIt_3 : decode cX12_haveIt 3 = .ok (.istore_n 3, 1) := by decide +kernel
theorem dX12_haveIt_4 : decode cX12_haveIt 4 = .ok (.iconst 0, 1) := by decide +kernel
theorem dX12_haveIt_5 : decode cX12_haveIt 5 = .ok (.istore 4, 2) := by decide +kernel
theorem dX12_haveIt_7 : decode cX12_haveIt 7 = .ok (.iload 4, 2) := by decide +kernel
theorem dX12_haveIt_9 : decode cX12_haveIt 9 = .ok (.aload_n 0, 1) := by decide +kernel
theorem dX12_haveIt_10 : decode cX12_haveIt 10 = .ok (.getfield 154, 3) := by decide +kernel
theorem dX12_haveIt_13 : decode cX12_haveIt 13 = .ok (.if_icmp .ge 50, 3) := by decide +kernel
theorem dX12_haveIt_16 : decode cX12_haveIt 16 = .ok (.aload_n 0, 1) := by decide +kernel
theorem dX12_haveIt_17 : decode cX12_haveIt 17 = .ok (.iload_n 1, 1) := by decide +kernel
theorem dX12_haveIt_18 : decode cX12_haveIt 18 = .ok (.iload 4, 2) := by decide +kernel
theorem dX12_haveIt_20 : decode cX12_haveIt 20 = .ok (.invokevirtual 300, 3) := by decide +kernel
theorem dX12_haveIt_23 : decode cX12_haveIt 23 = .ok (.istore 5, 2) := by decide +kernel
theorem dX12_haveIt_25 : decode cX12_haveIt 25 = .ok (.iload 5, 2) := by decide +kernel
theorem dX12_haveIt_27 : decode cX12_haveIt 27 = .ok (.ifCond .le 30, 3) := by decide +kernel
theorem dX12_haveIt_30 : decode cX12_haveIt 30 = .ok (.iload 5, 2) := by decide +kernel
theorem dX12_haveIt_32 : decode cX12_haveIt 32 = .ok (.iload_n 2, 1) := by decide +kernel
theorem dX12_haveIt_33 : decode cX12_haveIt 33 = .ok (.if_icmp .ge 6, 3) := by decide +kernel
theorem dX12_haveIt_36 : decode cX12_haveIt 36 = .ok (.goto 21, 3) := by decide +kernel
theorem dX12_haveIt_39 : decode cX12_haveIt 39 = .ok (.iload 5, 2) := by decide +kernel
theorem dX12_haveIt_41 : decode cX12_haveIt 41 = .ok (.iload_n 2, 1) := by decide +kernel
theorem dX12_haveIt_42 : decode cX12_haveIt 42 = .ok (.if_icmp .le 5, 3) := by decide +kernel
theorem dX12_haveIt_45 : decode cX12_haveIt 45 = .ok (.iconst 0, 1) := by decide +kernel
theorem dX12_haveIt_46 : decode cX12_haveIt 46 = .ok (.istore_n 3, 1) := by decide +kernel
theorem dX12_haveIt_47 : decode cX12_haveIt 47 = .ok (.iload 5, 2) := by decide +kernel
theorem dX12_haveIt_49 : decode cX12_haveIt 49 = .ok (.istore_n 2, 1) := by decide +kernel
theorem dX12_haveIt_50 : decode cX12_haveIt 50 = .ok (.iload_n 3, 1) := by decide +kernel
theorem dX12_haveIt_51 : decode cX12_haveIt 51 = .ok (.iconst 1, 1) := by decide +kernel
theorem dX12_haveIt_52 : decode cX12_haveIt 52 = .ok (.iload 4, 2) := by decide +kernel
theorem dX12_haveIt_54 : decode cX12_haveIt 54 = .ok (.ishl, 1) := by decide +kernel
theorem dX12_haveIt_55 : decode cX12_haveIt 55 = .ok (.ior, 1) := by decide +kernel
theorem dX12_haveIt_56 : decode cX12_haveIt 56 = .ok (.istore_n 3, 1) := by decide +kernel
theorem dX12_haveIt_57 : decode cX12_haveIt 57 = .ok (.iinc 4 1, 3) := by decide +kernel
theorem dX12_haveIt_60 : decode cX12_haveIt 60 = .ok (.goto (-53), 3) := by decide +kernel
theorem dX12_haveIt_63 : decode cX12_haveIt 63 = .ok (.iload_n 3, 1) := by decide +kernel
theorem dX12_haveIt_64 : decode cX12_haveIt 64 = .ok (.ireturn, 1) := by decide +kernel
theorem ok_yX12_haveIt : yOk yX12_haveIt 1 := ⟨by decide +kernel, by decide +kernel, by decide +kernel⟩
def fX12_haveIt_7 (n : Nat) : Nat → St → Int32 → Int32 → Int32 → Int32 → Option (Int32 × St)
  | 0, _, _, _, _, _ => none
  | k + 1, st, v1, v2, v3, v4 => if gI st 0 13 ≤ v4 then (some (v3, st)) else ((fX12_countsOf n st v1 v4).bind (fun r2 => if r2.1 ≤ 0 then (bnd (v4 + (1 : Int32)) (fun x5 => fX12_haveIt_7 n k r2.2 v1 v2 v3 x5)) else (if v2 ≤ r2.1 then (if r2.1 ≤ v2 then (bnd (v3 ||| ((1 : Int32) <<< (v4 &&& 31))) (fun x9 => bnd (v4 + (1 : Int32)) (fun x11 => fX12_haveIt_7 n k r2.2 v1 r2.1 x9 x11))) else (bnd ((0 : Int32) ||| ((1 : Int32) <<< (v4 &&& 31))) (fun x13 => bnd (v4 + (1 : Int32)) (fun x15 => fX12_haveIt_7 n k r2.2 v1 r2.1 x13 x15)))) else (bnd (v4 + (1 : Int32)) (fun x17 => fX12_haveIt_7 n k r2.2 v1 v2 v3 x17)))))
set_option maxHeartbeats 4000000 in
theorem tX12_haveIt_7 {p : Program} {l : Launch} {e : Env} {s : State} {m : MethodId} {args : Array Value} {below : List Frame} {meth : Method} {c : Code} {X : WX} (C : Amb 43 X p s m args meth c cX12_haveIt 6 RX12) (hr : meth.sig.returnType = some .int) {R : Int32 × St} {n : Nat} : ∀ (k : Nat) (st : St) (v1 : Int32) (v2 : Int32) (v3 : Int32) (v4 : Int32) (H : Heap) (locs : List Loc) (ls : Array Slot), Wd EM 43 X s.heap st H locs → lv_has ls 6 [(0, .ref (xq X 0)), (1, .int v1), (2, .int v2), (3, .int v3), (4, .int v4)] → fX12_haveIt_7 n k st v1 v2 v3 v4 = some R → W p l e { frames := 4, cells := 0, slots := 0, locals := 95 } s m args below meth c H locs 0 0 (QI EM 43 X R.1 R.2 below args s) (F0 m 7 ls []) := by
  obtain ⟨hx, hb, hml, hown, hts⟩ := id C.1
  intro k
  induction k with
  | zero => intro st v1 v2 v3 v4 H locs ls  hw hl hf; exact absurd (show none = some R from hf) (fun z => by cases z)
  | succ k ih =>
    intro st v1 v2 v3 v4 H locs ls  hw hl hf
    rw [fX12_haveIt_7] at hf
    refine lv_iload hx hb dX12_haveIt_7 (lv_at hl 4 rfl) ?_
    refine lv_aload_n hx hb dX12_haveIt_9 rfl (lv_at hl 0 rfl) ?_
    refine w_get (T := TX12) C hw (by decide) 13 kf_X12_154 (EM_0 X _ _) rfl inA12 (by decide) rfl dX12_haveIt_10 ?_
    refine lv_icmp_ge (tgt := 63) hx hb dX12_haveIt_13 (by decide) (fun c1 => ?_) (fun c1 => ?_)
    · replace hf := ite_t hf c1
      refine lv_iload_n hx hb dX12_haveIt_63 rfl (lv_at hl 3 rfl) ?_
      exact w_iret C hw hr (so2 hf).1 (so2 hf).2 dX12_haveIt_64
    · replace hf := ite_f hf c1
      refine lv_aload_n hx hb dX12_haveIt_16 rfl (lv_at hl 0 rfl) ?_
      refine lv_iload_n hx hb dX12_haveIt_17 rfl (lv_at hl 1 rfl) ?_
      refine lv_iload hx hb dX12_haveIt_18 (lv_at hl 4 rfl) ?_
      obtain ⟨r2, k3, hf⟩ := bd_some hf
      refine w_goI hw (w_runV (rest := []) C hw (zX12_countsOf _ _ n st v1 v4 r2 k3) (by decide) (EM_0 X _ _) rfl km_X12_300 ki_yX12_countsOf kv_X12_countsOf kz_X12 kc_X12_countsOf rfl ok_yX12_countsOf ⟨Nat.le_of_ble_eq_true rfl, Nat.le_of_ble_eq_true rfl⟩ rfl rfl rfl rfl hl.1 (Nat.le_of_ble_eq_true rfl) dX12_haveIt_20 ⟨Nat.zero_le _, Nat.zero_le _⟩) (fun H locs hw => ?_)
      refine lv_istore (lv' := [(5, .int r2.1), (0, .ref (xq X 0)), (1, .int v1), (2, .int v2), (3, .int v3), (4, .int v4)]) hx hb dX12_haveIt_23 hl (by decide) rfl (fun ls hl => ?_)
      refine lv_iload hx hb dX12_haveIt_25 (lv_at hl 0 rfl) ?_
      refine lv_if_le (tgt := 57) hx hb dX12_haveIt_27 (by decide) (fun c4 => ?_) (fun c4 => ?_)
      · replace hf := ite_t hf c4
        obtain ⟨x5, e6⟩ : ∃ z : Int32, z = v4 + (1 : Int32) := ⟨_, rfl⟩
        replace hf := bnd_nm hf e6
        refine lv_iinc (v := x5) (lv' := [(4, .int x5), (5, .int r2.1), (0, .ref (xq X 0)), (1, .int v1), (2, .int v2), (3, .int v3)]) hx hb dX12_haveIt_57 hl (k := 5) rfl (by rw [e6]; rfl) (by decide) rfl (fun ls hl => ?_)
        refine lv_goto (tgt := 7) hx hb dX12_haveIt_60 (by decide) ?_
        exact ih r2.2 v1 v2 v3 x5 _ _ _ hw (lv_sub hl [2, 3, 4, 5, 0] rfl) hf
      · replace hf := ite_f hf c4
        refine lv_iload hx hb dX12_haveIt_30 (lv_at hl 0 rfl) ?_
        refine lv_iload_n hx hb dX12_haveIt_32 rfl (lv_at hl 3 rfl) ?_
        refine lv_icmp_ge (tgt := 39) hx hb dX12_haveIt_33 (by decide) (fun c7 => ?_) (fun c7 => ?_)
        · replace hf := ite_t hf c7
          refine lv_iload hx hb dX12_haveIt_39 (lv_at hl 0 rfl) ?_
          refine lv_iload_n hx hb dX12_haveIt_41 rfl (lv_at hl 3 rfl) ?_
          refine lv_icmp_le (tgt := 47) hx hb dX12_haveIt_42 (by decide) (fun c8 => ?_) (fun c8 => ?_)
          · replace hf := ite_t hf c8
            refine lv_iload hx hb dX12_haveIt_47 (lv_at hl 0 rfl) ?_
            refine lv_istore_n (lv' := [(2, .int r2.1), (5, .int r2.1), (0, .ref (xq X 0)), (1, .int v1), (3, .int v3), (4, .int v4)]) hx hb dX12_haveIt_49 rfl hl (by decide) rfl (fun ls hl => ?_)
            refine lv_iload_n hx hb dX12_haveIt_50 rfl (lv_at hl 4 rfl) ?_
            refine lv_iconst (v := 1) hx hb dX12_haveIt_51 (by decide) ?_
            refine lv_iload hx hb dX12_haveIt_52 (lv_at hl 5 rfl) ?_
            refine lv_ishl hx hb dX12_haveIt_54 ?_
            refine lv_ior hx hb dX12_haveIt_55 ?_
            refine lv_topi (fun x9 e10 => ?_)
            replace hf := bnd_nm hf e10
            refine lv_istore_n (lv' := [(3, .int x9), (2, .int r2.1), (5, .int r2.1), (0, .ref (xq X 0)), (1, .int v1), (4, .int v4)]) hx hb dX12_haveIt_56 rfl hl (by decide) rfl (fun ls hl => ?_)
            obtain ⟨x11, e12⟩ : ∃ z : Int32, z = v4 + (1 : Int32) := ⟨_, rfl⟩
            replace hf := bnd_nm hf e12
            refine lv_iinc (v := x11) (lv' := [(4, .int x11), (3, .int x9), (2, .int r2.1), (5, .int r2.1), (0, .ref (xq X 0)), (1, .int v1)]) hx hb dX12_haveIt_57 hl (k := 5) rfl (by rw [e12]; rfl) (by decide) rfl (fun ls hl => ?_)
            refine lv_goto (tgt := 7) hx hb dX12_haveIt_60 (by decide) ?_
            exact ih r2.2 v1 r2.1 x9 x11 _ _ _ hw (lv_sub hl [4, 5, 2, 1, 0] rfl) hf
          · replace hf := ite_f hf c8
            refine lv_iconst (v := 0) hx hb dX12_haveIt_45 (by decide) ?_
            refine lv_istore_n (lv' := [(3, .int (0 : Int32)), (5, .int r2.1), (0, .ref (xq X 0)), (1, .int v1), (2, .int v2), (4, .int v4)]) hx hb dX12_haveIt_46 rfl hl (by decide) rfl (fun ls hl => ?_)
            refine lv_iload hx hb dX12_haveIt_47 (lv_at hl 1 rfl) ?_
            refine lv_istore_n (lv' := [(2, .int r2.1), (3, .int (0 : Int32)), (5, .int r2.1), (0, .ref (xq X 0)), (1, .int v1), (4, .int v4)]) hx hb dX12_haveIt_49 rfl hl (by decide) rfl (fun ls hl => ?_)
            refine lv_iload_n hx hb dX12_haveIt_50 rfl (lv_at hl 1 rfl) ?_
            refine lv_iconst (v := 1) hx hb dX12_haveIt_51 (by decide) ?_
            refine lv_iload hx hb dX12_haveIt_52 (lv_at hl 5 rfl) ?_
            refine lv_ishl hx hb dX12_haveIt_54 ?_
            refine lv_ior hx hb dX12_haveIt_55 ?_
            refine lv_topi (fun x13 e14 => ?_)
            replace hf := bnd_nm hf e14
            refine lv_istore_n (lv' := [(3, .int x13), (2, .int r2.1), (5, .int r2.1), (0, .ref (xq X 0)), (1, .int v1), (4, .int v4)]) hx hb dX12_haveIt_56 rfl hl (by decide) rfl (fun ls hl => ?_)
            obtain ⟨x15, e16⟩ : ∃ z : Int32, z = v4 + (1 : Int32) := ⟨_, rfl⟩
            replace hf := bnd_nm hf e16
            refine lv_iinc (v := x15) (lv' := [(4, .int x15), (3, .int x13), (2, .int r2.1), (5, .int r2.1), (0, .ref (xq X 0)), (1, .int v1)]) hx hb dX12_haveIt_57 hl (k := 5) rfl (by rw [e16]; rfl) (by decide) rfl (fun ls hl => ?_)
            refine lv_goto (tgt := 7) hx hb dX12_haveIt_60 (by decide) ?_
            exact ih r2.2 v1 r2.1 x13 x15 _ _ _ hw (lv_sub hl [4, 5, 2, 1, 0] rfl) hf
        · replace hf := ite_f hf c7
          refine lv_goto (tgt := 57) hx hb dX12_haveIt_36 (by decide) ?_
          obtain ⟨x17, e18⟩ : ∃ z : Int32, z = v4 + (1 : Int32) := ⟨_, rfl⟩
          replace hf := bnd_nm hf e18
          refine lv_iinc (v := x17) (lv' := [(4, .int x17), (5, .int r2.1), (0, .ref (xq X 0)), (1, .int v1), (2, .int v2), (3, .int v3)]) hx hb dX12_haveIt_57 hl (k := 5) rfl (by rw [e18]; rfl) (by decide) rfl (fun ls hl => ?_)
          refine lv_goto (tgt := 7) hx hb dX12_haveIt_60 (by decide) ?_
          exact ih r2.2 v1 v2 v3 x17 _ _ _ hw (lv_sub hl [2, 3, 4, 5, 0] rfl) hf
def fX12_haveIt (n : Nat) (st : St) (a1 : Int32) : Option (Int32 × St) := fX12_haveIt_7 n n st a1 (0 : Int32) (0 : Int32) (0 : Int32)
set_option maxHeartbeats 4000000 in
theorem zX12_haveIt (l : Launch) (X : WX) (n : Nat) (st : St) (a1 : Int32) (R : Int32 × St) (hf : fX12_haveIt n st a1 = some R) : CtI l yX12_haveIt cX12_haveIt 6 .int ({ frames := 4, cells := 0, slots := 0, locals := 95 }) EM 43 X [.ref (xq X 0), .int a1] st R.1 R.2 := by
  refine ct_in (own := RX12) (by decide +kernel) rfl (Nat.le_of_ble_eq_true rfl) (fun p e s m below meth c C hr hw ls hl => ?_)
  obtain ⟨hx, hb, hml, hown, hts⟩ := id C.1
  have hl : lv_has ls 6 [(0, .ref (xq X 0)), (1, .int a1)] := hl
  unfold fX12_haveIt at hf
  refine lv_iconst (v := 0) hx hb dX12_haveIt_0 (by decide) ?_
  refine lv_istore_n (lv' := [(2, .int (0 : Int32)), (0, .ref (xq X 0)), (1, .int a1)]) hx hb dX12_haveIt_1 rfl hl (by decide) rfl (fun ls hl => ?_)
  refine lv_iconst (v := 0) hx hb dX12_haveIt_2 (by decide) ?_
  refine lv_istore_n (lv' := [(3, .int (0 : Int32)), (2, .int (0 : Int32)), (0, .ref (xq X 0)), (1, .int a1)]) hx hb dX12_haveIt_3 rfl hl (by decide) rfl (fun ls hl => ?_)
  refine lv_iconst (v := 0) hx hb dX12_haveIt_4 (by decide) ?_
  refine lv_istore (lv' := [(4, .int (0 : Int32)), (3, .int (0 : Int32)), (2, .int (0 : Int32)), (0, .ref (xq X 0)), (1, .int a1)]) hx hb dX12_haveIt_5 hl (by decide) rfl (fun ls hl => ?_)
  exact tX12_haveIt_7 C hr n st a1 (0 : Int32) (0 : Int32) (0 : Int32) _ _ _ hw (lv_sub hl [3, 4, 2, 1, 0] rfl) hf
theorem dX12_whose_0 : decode cX12_whose 0 = .ok (.aload_n 0, 1) := by decide +kernel
theorem dX12_whose_1 : decode cX12_whose 1 = .ok (.iload_n 1, 1) := by decide +kernel
theorem dX12_whose_2 : decode cX12_whose 2 = .ok (.invokevirtual 197, 3) := by decide +kernel
theorem dX12_whose_5 : decode cX12_whose 5 = .ok (.ifCond .eq 12, 3) := by decide +kernel
theorem dX12_whose_8 : decode cX12_whose 8 = .ok (.iload_n 2, 1) := by decide +kernel
theorem dX12_whose_9 : decode cX12_whose 9 = .ok (.iconst 0, 1) := by decide +kernel
theorem dX12_whose_10 : decode cX12_whose 10 = .ok (.iconst 4, 1) := by decide +kernel
theorem dX12_whose_11 : decode cX12_whose 11 = .ok (.invokestatic 147, 3) := by decide +kernel
theorem dX12_whose_14 : decode cX12_whose 14 = .ok (.ifCond .ne 5, 3) := by decide +kernel
theorem dX12_whose_17 : decode cX12_whose 17 = .ok (.iconst (-1), 1) := by decide +kernel
theorem dX12_whose_18 : decode cX12_whose 18 = .ok (.ireturn, 1) := by decide +kernel
theorem dX12_whose_19 : decode cX12_whose 19 = .ok (.iload_n 2, 1) := by decide +kernel
theorem dX12_whose_20 : decode cX12_whose 20 = .ok (.tableswitch 70 0 3 #[32, 49, 55, 64], 32) := by decide +kernel
theorem dX12_whose_52 : decode cX12_whose 52 = .ok (.aload_n 0, 1) := by decide +kernel
theorem dX12_whose_53 : decode cX12_whose 53 = .ok (.aload_n 0, 1) := by decide +kernel
theorem dX12_whose_54 : decode cX12_whose 54 = .ok (.getfield 28, 3) := by decide +kernel
theorem dX12_whose_57 : decode cX12_whose 57 = .ok (.iload_n 1, 1) := by decide +kernel
theorem dX12_whose_58 : decode cX12_whose 58 = .ok (.iaload, 1) := by decide +kernel
theorem dX12_whose_59 : decode cX12_whose 59 = .ok (.aload_n 0, 1) := by decide +kernel
theorem dX12_whose_60 : decode cX12_whose 60 = .ok (.getfield 31, 3) := by decide +kernel
theorem dX12_whose_63 : decode cX12_whose 63 = .ok (.iload_n 1, 1) := by decide +kernel
theorem dX12_whose_64 : decode cX12_whose 64 = .ok (.iaload, 1) := by decide +kernel
theorem dX12_whose_65 : decode cX12_whose 65 = .ok (.invokevirtual 288, 3) := by decide +kernel
theorem dX12_whose_68 : decode cX12_whose 68 = .ok (.ireturn, 1) := by decide +kernel
theorem dX12_whose_69 : decode cX12_whose 69 = .ok (.aload_n 0, 1) := by decide +kernel
theorem dX12_whose_70 : decode cX12_whose 70 = .ok (.iload_n 1, 1) := by decide +kernel
theorem dX12_whose_71 : decode cX12_whose 71 = .ok (.invokevirtual 294, 3) := by decide +kernel
theorem dX12_whose_74 : decode cX12_whose 74 = .ok (.ireturn, 1) := by decide +kernel
theorem dX12_whose_75 : decode cX12_whose 75 = .ok (.aload_n 0, 1) := by decide +kernel
theorem dX12_whose_76 : decode cX12_whose 76 = .ok (.iload_n 1, 1) := by decide +kernel
theorem dX12_whose_77 : decode cX12_whose 77 = .ok (.invokevirtual 303, 3) := by decide +kernel
theorem dX12_whose_80 : decode cX12_whose 80 = .ok (.invokestatic 306, 3) := by decide +kernel
theorem dX12_whose_83 : decode cX12_whose 83 = .ok (.ireturn, 1) := by decide +kernel
theorem dX12_whose_84 : decode cX12_whose 84 = .ok (.aload_n 0, 1) := by decide +kernel
theorem dX12_whose_85 : decode cX12_whose 85 = .ok (.iload_n 1, 1) := by decide +kernel
theorem dX12_whose_86 : decode cX12_whose 86 = .ok (.invokevirtual 303, 3) := by decide +kernel
theorem dX12_whose_89 : decode cX12_whose 89 = .ok (.ireturn, 1) := by decide +kernel
theorem dX12_whose_90 : decode cX12_whose 90 = .ok (.aload_n 0, 1) := by decide +kernel
theorem dX12_whose_91 : decode cX12_whose 91 = .ok (.iload_n 1, 1) := by decide +kernel
theorem dX12_whose_92 : decode cX12_whose 92 = .ok (.invokevirtual 309, 3) := by decide +kernel
theorem dX12_whose_95 : decode cX12_whose 95 = .ok (.ireturn, 1) := by decide +kernel
theorem ok_yX12_whose : yOk yX12_whose 2 := ⟨by decide +kernel, by decide +kernel, by decide +kernel⟩
def fX12_whose (n : Nat) (st : St) (a1 : Int32) (a2 : Int32) : Option (Int32 × St) := if bI (fX12_isFall st a1) = 0 then (some ((-1 : Int32), st)) else (if bI (fX12_in a2 (0 : Int32) (4 : Int32)) = 0 then (some ((-1 : Int32), st)) else (if a2 = 0 then (gd (inB a1 11) (gd (inB a1 11) ((fX12_fieldAt n st (gI st 7 a1.toNatClampNeg) (gI st 8 a1.toNatClampNeg)).bind (fun r6 => some (r6, st))))) else (if a2 = 1 then ((fX12_finder n st a1).bind (fun r9 => some (r9, st))) else (if a2 = 2 then ((fX12_haveIt n st a1).bind (fun r12 => (fX12_bitsOf n r12.1).bind (fun r14 => some (r14, r12.2)))) else (if a2 = 3 then ((fX12_haveIt n st a1).bind (fun r17 => some (r17.1, r17.2))) else ((fX12_mostOf n st a1).bind (fun r19 => some (r19.1, r19.2))))))))
set_option maxHeartbeats 4000000 in
theorem zX12_whose (l : Launch) (X : WX) (n : Nat) (st : St) (a1 : Int32) (a2 : Int32) (R : Int32 × St) (hf : fX12_whose n st a1 a2 = some R) : CtI l yX12_whose cX12_whose 3 .int ({ frames := 5, cells := 0, slots := 0, locals := 120 }) EM 43 X [.ref (xq X 0), .int a1, .int a2] st R.1 R.2 := by
  refine ct_in (own := RX12) (by decide +kernel) rfl (Nat.le_of_ble_eq_true rfl) (fun p e s m below meth c C hr hw ls hl => ?_)
  obtain ⟨hx, hb, hml, hown, hts⟩ := id C.1
  have hl : lv_has ls 3 [(0, .ref (xq X 0)), (1, .int a1), (2, .int a2)] := hl
  unfold fX12_whose at hf
  refine lv_aload_n hx hb dX12_whose_0 rfl (lv_at hl 0 rfl) ?_
  refine lv_iload_n hx hb dX12_whose_1 rfl (lv_at hl 1 rfl) ?_
  refine w_goI hw (w_runV (rest := []) C hw (zX12_isFall _ _ st a1) (by decide) (EM_0 X _ _) rfl km_X12_197 ki_yX12_isFall kv_X12_isFall kz_X12 kc_X12_isFall rfl ok_yX12_isFall ⟨Nat.le_of_ble_eq_true rfl, Nat.le_of_ble_eq_true rfl⟩ rfl rfl rfl rfl hl.1 (Nat.le_of_ble_eq_true rfl) dX12_whose_2 ⟨Nat.zero_le _, Nat.zero_le _⟩) (fun H locs hw => ?_)
  refine lv_if_eq (tgt := 17) hx hb dX12_whose_5 (by decide) (fun c1 => ?_) (fun c1 => ?_)
  · replace hf := ite_t hf c1
    refine lv_iconst (v := -1) hx hb dX12_whose_17 (by decide) ?_
    exact w_iret C hw hr (so2 hf).1 (so2 hf).2 dX12_whose_18
  · replace hf := ite_f hf c1
    refine lv_iload_n hx hb dX12_whose_8 rfl (lv_at hl 2 rfl) ?_
    refine lv_iconst (v := 0) hx hb dX12_whose_9 (by decide) ?_
    refine lv_iconst (v := 4) hx hb dX12_whose_10 (by decide) ?_
    refine w_goI hw (w_runS (rest := []) C hw (zX12_in _ _ st a2 (0 : Int32) (4 : Int32)) km_X12_147 kt_yX12_in kz_X12 kc_X12_in ok_yX12_in ⟨Nat.le_of_ble_eq_true rfl, Nat.le_of_ble_eq_true rfl⟩ rfl rfl rfl rfl hl.1 (Nat.le_of_ble_eq_true rfl) dX12_whose_11 ⟨Nat.zero_le _, Nat.zero_le _⟩) (fun H locs hw => ?_)
    refine lv_if_ne (tgt := 19) hx hb dX12_whose_14 (by decide) (fun c2 => ?_) (fun c2 => ?_)
    · replace hf := ite_f hf c2
      refine lv_iload_n hx hb dX12_whose_19 rfl (lv_at hl 2 rfl) ?_
      by_cases c3 : a2 = 0
      · replace hf := ite_t hf c3
        refine lv_tableIn (tgt := 52) hx hb dX12_whose_20 (by rw [c3]; decide) (by rw [c3]; decide) (by rw [c3]; rfl) (by decide) ?_
        refine lv_aload_n hx hb dX12_whose_52 rfl (lv_at hl 0 rfl) ?_
        refine lv_aload_n hx hb dX12_whose_53 rfl (lv_at hl 0 rfl) ?_
        refine w_get (T := TX12) C hw (by decide) 9 kf_X12_28 (EM_0 X _ _) rfl inA12 (by decide) rfl dX12_whose_54 ?_
        refine lv_iload_n hx hb dX12_whose_57 rfl (lv_at hl 1 rfl) ?_
        obtain ⟨h4, hf⟩ := gd_some hf
        refine w_iald C hw (by decide) (EM_7 X _ _) h4 rfl dX12_whose_58 ?_
        refine lv_aload_n hx hb dX12_whose_59 rfl (lv_at hl 0 rfl) ?_
        refine w_get (T := TX12) C hw (by decide) 10 kf_X12_31 (EM_0 X _ _) rfl inA12 (by decide) rfl dX12_whose_60 ?_
        refine lv_iload_n hx hb dX12_whose_63 rfl (lv_at hl 1 rfl) ?_
        obtain ⟨h5, hf⟩ := gd_some hf
        refine w_iald C hw (by decide) (EM_8 X _ _) h5 rfl dX12_whose_64 ?_
        obtain ⟨r6, k7, hf⟩ := bd_some hf
        refine w_goI hw (w_runV (rest := []) C hw (zX12_fieldAt _ _ n st (gI st 7 a1.toNatClampNeg) (gI st 8 a1.toNatClampNeg) r6 k7) (by decide) (EM_0 X _ _) rfl km_X12_288 ki_yX12_fieldAt kv_X12_fieldAt kz_X12 kc_X12_fieldAt rfl ok_yX12_fieldAt ⟨Nat.le_of_ble_eq_true rfl, Nat.le_of_ble_eq_true rfl⟩ rfl rfl rfl rfl hl.1 (Nat.le_of_ble_eq_true rfl) dX12_whose_65 ⟨Nat.zero_le _, Nat.zero_le _⟩) (fun H locs hw => ?_)
        exact w_iret C hw hr (so2 hf).1 (so2 hf).2 dX12_whose_68
      · replace hf := ite_f hf c3
        by_cases c8 : a2 = 1
        · replace hf := ite_t hf c8
          refine lv_tableIn (tgt := 69) hx hb dX12_whose_20 (by rw [c8]; decide) (by rw [c8]; decide) (by rw [c8]; rfl) (by decide) ?_
          refine lv_aload_n hx hb dX12_whose_69 rfl (lv_at hl 0 rfl) ?_
          refine lv_iload_n hx hb dX12_whose_70 rfl (lv_at hl 1 rfl) ?_
          obtain ⟨r9, k10, hf⟩ := bd_some hf
          refine w_goI hw (w_runV (rest := []) C hw (zX12_finder _ _ n st a1 r9 k10) (by decide) (EM_0 X _ _) rfl km_X12_294 ki_yX12_finder kv_X12_finder kz_X12 kc_X12_finder rfl ok_yX12_finder ⟨Nat.le_of_ble_eq_true rfl, Nat.le_of_ble_eq_true rfl⟩ rfl rfl rfl rfl hl.1 (Nat.le_of_ble_eq_true rfl) dX12_whose_71 ⟨Nat.zero_le _, Nat.zero_le _⟩) (fun H locs hw => ?_)
          exact w_iret C hw hr (so2 hf).1 (so2 hf).2 dX12_whose_74
        · replace hf := ite_f hf c8
          by_cases c11 : a2 = 2
          · replace hf := ite_t hf c11
            refine lv_tableIn (tgt := 75) hx hb dX12_whose_20 (by rw [c11]; decide) (by rw [c11]; decide) (by rw [c11]; rfl) (by decide) ?_
            refine lv_aload_n hx hb dX12_whose_75 rfl (lv_at hl 0 rfl) ?_
            refine lv_iload_n hx hb dX12_whose_76 rfl (lv_at hl 1 rfl) ?_
            obtain ⟨r12, k13, hf⟩ := bd_some hf
            refine w_goI hw (w_runV (rest := []) C hw (zX12_haveIt _ _ n st a1 r12 k13) (by decide) (EM_0 X _ _) rfl km_X12_303 ki_yX12_haveIt kv_X12_haveIt kz_X12 kc_X12_haveIt rfl ok_yX12_haveIt ⟨Nat.le_of_ble_eq_true rfl, Nat.le_of_ble_eq_true rfl⟩ rfl rfl rfl rfl hl.1 (Nat.le_of_ble_eq_true rfl) dX12_whose_77 ⟨Nat.zero_le _, Nat.zero_le _⟩) (fun H locs hw => ?_)
            obtain ⟨r14, k15, hf⟩ := bd_some hf
            refine w_goI hw (w_runS (rest := []) C hw (zX12_bitsOf _ _ n r12.2 r12.1 r14 k15) km_X12_306 kt_yX12_bitsOf kz_X12 kc_X12_bitsOf ok_yX12_bitsOf ⟨Nat.le_of_ble_eq_true rfl, Nat.le_of_ble_eq_true rfl⟩ rfl rfl rfl rfl hl.1 (Nat.le_of_ble_eq_true rfl) dX12_whose_80 ⟨Nat.zero_le _, Nat.zero_le _⟩) (fun H locs hw => ?_)
            exact w_iret C hw hr (so2 hf).1 (so2 hf).2 dX12_whose_83
          · replace hf := ite_f hf c11
            by_cases c16 : a2 = 3
            · replace hf := ite_t hf c16
              refine lv_tableIn (tgt := 84) hx hb dX12_whose_20 (by rw [c16]; decide) (by rw [c16]; decide) (by rw [c16]; rfl) (by decide) ?_
              refine lv_aload_n hx hb dX12_whose_84 rfl (lv_at hl 0 rfl) ?_
              refine lv_iload_n hx hb dX12_whose_85 rfl (lv_at hl 1 rfl) ?_
              obtain ⟨r17, k18, hf⟩ := bd_some hf
              refine w_goI hw (w_runV (rest := []) C hw (zX12_haveIt _ _ n st a1 r17 k18) (by decide) (EM_0 X _ _) rfl km_X12_303 ki_yX12_haveIt kv_X12_haveIt kz_X12 kc_X12_haveIt rfl ok_yX12_haveIt ⟨Nat.le_of_ble_eq_true rfl, Nat.le_of_ble_eq_true rfl⟩ rfl rfl rfl rfl hl.1 (Nat.le_of_ble_eq_true rfl) dX12_whose_86 ⟨Nat.zero_le _, Nat.zero_le _⟩) (fun H locs hw => ?_)
              exact w_iret C hw hr (so2 hf).1 (so2 hf).2 dX12_whose_89
            · replace hf := ite_f hf c16
              refine lv_tableOut (tgt := 90) hx hb dX12_whose_20 (by have q0 := ne_toInt (a := 0) c3 (by decide); have q1 := ne_toInt (a := 1) c8 (by decide); have q2 := ne_toInt (a := 2) c11 (by decide); have q3 := ne_toInt (a := 3) c16 (by decide); omega) (by decide) ?_
              refine lv_aload_n hx hb dX12_whose_90 rfl (lv_at hl 0 rfl) ?_
              refine lv_iload_n hx hb dX12_whose_91 rfl (lv_at hl 1 rfl) ?_
              obtain ⟨r19, k20, hf⟩ := bd_some hf
              refine w_goI hw (w_runV (rest := []) C hw (zX12_mostOf _ _ n st a1 r19 k20) (by decide) (EM_0 X _ _) rfl km_X12_309 ki_yX12_mostOf kv_X12_mostOf kz_X12 kc_X12_mostOf rfl ok_yX12_mostOf ⟨Nat.le_of_ble_eq_true rfl, Nat.le_of_ble_eq_true rfl⟩ rfl rfl rfl rfl hl.1 (Nat.le_of_ble_eq_true rfl) dX12_whose_92 ⟨Nat.zero_le _, Nat.zero_le _⟩) (fun H locs hw => ?_)
              exact w_iret C hw hr (so2 hf).1 (so2 hf).2 dX12_whose_95
    · replace hf := ite_t hf c2
      refine lv_iconst (v := -1) hx hb dX12_whose_17 (by decide) ?_
      exact w_iret C hw hr (so2 hf).1 (so2 hf).2 dX12_whose_18
theorem dX12_oweBy_0 : decode cX12_oweBy 0 = .ok (.aload_n 0, 1) := by decide +kernel
theorem dX12_oweBy_1 : decode cX12_oweBy 1 = .ok (.iload_n 1, 1) := by decide +kernel
theorem dX12_oweBy_2 : decode cX12_oweBy 2 = .ok (.invokevirtual 294, 3) := by decide +kernel
theorem dX12_oweBy_5 : decode cX12_oweBy 5 = .ok (.istore_n 2, 1) := by decide +kernel
theorem dX12_oweBy_6 : decode cX12_oweBy 6 = .ok (.iload_n 2, 1) := by decide +kernel
theorem dX12_oweBy_7 : decode cX12_oweBy 7 = .ok (.ifCond .ge 7, 3) := by decide +kernel
theorem dX12_oweBy_10 : decode cX12_oweBy 10 = .ok (.iconst 0, 1) := by decide +kernel
theorem dX12_oweBy_11 : decode cX12_oweBy 11 = .ok (.goto 8, 3) := by decide +kernel
theorem dX12_oweBy_14 : decode cX12_oweBy 14 = .ok (.aload_n 0, 1) := by decide +kernel
theorem dX12_oweBy_15 : decode cX12_oweBy 15 = .ok (.iload_n 1, 1) := by decide +kernel
theorem dX12_oweBy_16 : decode cX12_oweBy 16 = .ok (.invokevirtual 303, 3) := by decide +kernel
theorem dX12_oweBy_19 : decode cX12_oweBy 19 = .ok (.istore_n 3, 1) := by decide +kernel
theorem dX12_oweBy_20 : decode cX12_oweBy 20 = .ok (.iload_n 3, 1) := by decide +kernel
theorem dX12_oweBy_21 : decode cX12_oweBy 21 = .ok (.ifCond .ne 5, 3) := by decide +kernel
theorem dX12_oweBy_24 : decode cX12_oweBy 24 = .ok (.iconst 0, 1) := by decide +kernel
theorem dX12_oweBy_25 : decode cX12_oweBy 25 = .ok (.ireturn, 1) := by decide +kernel
theorem dX12_oweBy_26 : decode cX12_oweBy 26 = .ok (.bipush 12, 2) := by decide +kernel
theorem dX12_oweBy_28 : decode cX12_oweBy 28 = .ok (.iload_n 3, 1) := by decide +kernel
theorem dX12_oweBy_29 : decode cX12_oweBy 29 = .ok (.invokestatic 306, 3) := by decide +kernel
theorem dX12_oweBy_32 : decode cX12_oweBy 32 = .ok (.idiv, 1) := by decide +kernel
theorem dX12_oweBy_33 : decode cX12_oweBy 33 = .ok (.istore 4, 2) := by decide +kernel
theorem dX12_oweBy_35 : decode cX12_oweBy 35 = .ok (.iconst 0, 1) := by decide +kernel
theorem dX12_oweBy_36 : decode cX12_oweBy 36 = .ok (.istore 5, 2) := by decide +kernel
theorem dX12_oweBy_38 : decode cX12_oweBy 38 = .ok (.iconst 0, 1) := by decide +kernel
theorem dX12_oweBy_39 : decode cX12_oweBy 39 = .ok (.istore 6, 2) := by decide +kernel
theorem dX12_oweBy_41 : decode cX12_oweBy 41 = .ok (.iload 6, 2) := by decide +kernel
theorem dX12_oweBy_43 : decode cX12_oweBy 43 = .ok (.aload_n 0, 1) := by decide +kernel
theorem dX12_oweBy_44 : decode cX12_oweBy 44 = .ok (.getfield 154, 3) := by decide +kernel
theorem dX12_oweBy_47 : decode cX12_oweBy 47 = .ok (.if_icmp .ge 61, 3) := by decide +kernel
theorem dX12_oweBy_50 : decode cX12_oweBy 50 = .ok (.iload_n 3, 1) := by decide +kernel
theorem dX12_oweBy_51 : decode cX12_oweBy 51 = .ok (.iload 6, 2) := by decide +kernel
theorem dX12_oweBy_53 : decode cX12_oweBy 53 = .ok (.ishr, 1) := by decide +kernel
theorem dX12_oweBy_54 : decode cX12_oweBy 54 = .ok (.iconst 1, 1) := by decide +kernel
theorem dX12_oweBy_55 : decode cX12_oweBy 55 = .ok (.iand, 1) := by decide +kernel
theorem dX12_oweBy_56 : decode cX12_oweBy 56 = .ok (.ifCond .eq 46, 3) := by decide +kernel
theorem dX12_oweBy_59 : decode cX12_oweBy 59 = .ok (.aload_n 0, 1) := by decide +kernel
theorem dX12_oweBy_60 : decode cX12_oweBy 60 = .ok (.getfield 40, 3) := by decide +kernel
theorem dX12_oweBy_63 : decode cX12_oweBy 63 = .ok (.iload 6, 2) := by decide +kernel
theorem dX12_oweBy_65 : decode cX12_oweBy 65 = .ok (.iaload, 1) := by decide +kernel
theorem dX12_oweBy_66 : decode cX12_oweBy 66 = .ok (.iload_n 2, 1) := by decide +kernel
theorem dX12_oweBy_67 : decode cX12_oweBy 67 = .ok (.if_icmp .ne 6, 3) := by decide +kernel
theorem dX12_oweBy_70 : decode cX12_oweBy 70 = .ok (.goto 32, 3) := by decide +kernel
theorem dX12_oweBy_73 : decode cX12_oweBy 73 = .ok (.aload_n 0, 1) := by decide +kernel
theorem dX12_oweBy_74 : decode cX12_oweBy 74 = .ok (.getfield 90, 3) := by decide +kernel
theorem dX12_oweBy_77 : decode cX12_oweBy 77 = .ok (.bipush 6, 2) := by decide +kernel
theorem dX12_oweBy_79 : decode cX12_oweBy 79 = .ok (.iload_n 2, 1) := by decide +kernel
theorem dX12_oweBy_80 : decode cX12_oweBy 80 = .ok (.imul, 1) := by decide +kernel
theorem dX12_oweBy_81 : decode cX12_oweBy 81 = .ok (.aload_n 0, 1) := by decide +kernel
theorem dX12_oweBy_82 : decode cX12_oweBy 82 = .ok (.getfield 40, 3) := by decide +kernel
theorem dX12_oweBy_85 : decode cX12_oweBy 85 = .ok (.iload 6, 2) := by decide +kernel
theorem dX12_oweBy_87 : decode cX12_oweBy 87 = .ok (.iaload, 1) := by decide +kernel
theorem dX12_oweBy_88 : decode cX12_oweBy 88 = .ok (.iadd, 1) := by decide +kernel
theorem dX12_oweBy_89 : decode cX12_oweBy 89 = .ok (.dup2, 1) := by decide +kernel
theorem dX12_oweBy_90 : decode cX12_oweBy 90 = .ok (.iaload, 1) := by decide +kernel
theorem dX12_oweBy_91 : decode cX12_oweBy 91 = .ok (.iload 4, 2) := by decide +kernel
theorem dX12_oweBy_93 : decode cX12_oweBy 93 = .ok (.iadd, 1) := by decide +kernel
theorem dX12_oweBy_94 : decode cX12_oweBy 94 = .ok (.iastore, 1) := by decide +kernel
theorem dX12_oweBy_95 : decode cX12_oweBy 95 = .ok (.iload 5, 2) := by decide +kernel
theorem dX12_oweBy_97 : decode cX12_oweBy 97 = .ok (.iload 4, 2) := by decide +kernel
theorem dX12_oweBy_99 : decode cX12_oweBy 99 = .ok (.iadd, 1) := by decide +kernel
theorem dX12_oweBy_100 : decode cX12_oweBy 100 = .ok (.istore 5, 2) := by decide +kernel
theorem dX12_oweBy_102 : decode cX12_oweBy 102 = .ok (.iinc 6 1, 3) := by decide +kernel
theorem dX12_oweBy_105 : decode cX12_oweBy 105 = .ok (.goto (-64), 3) := by decide +kernel
theorem dX12_oweBy_108 : decode cX12_oweBy 108 = .ok (.iload 5, 2) := by decide +kernel
theorem dX12_oweBy_110 : decode cX12_oweBy 110 = .ok (.ireturn, 1) := by decide +kernel
theorem ok_yX12_oweBy : yOk yX12_oweBy 1 := ⟨by decide +kernel, by decide +kernel, by decide +kernel⟩
def fX12_oweBy_41 (n : Nat) : Nat → St → Int32 → Int32 → Int32 → Int32 → Int32 → Option (Int32 × St)
  | 0, _, _, _, _, _, _ => none
  | k + 1, st, v2, v3, v4, v5, v6 => if gI st 0 13 ≤ v6 then (some (v5, st)) else (if (v3 >>> (v6 &&& 31)) &&& (1 : Int32) = 0 then (bnd (v6 + (1 : Int32)) (fun x14 => fX12_oweBy_41 n k st v2 v3 v4 v5 x14)) else (gd (inB v6 13) (if gI st 11 v6.toNatClampNeg = v2 then (bnd (v6 + (1 : Int32)) (fun x27 => fX12_oweBy_41 n k st v2 v3 v4 v5 x27)) else (gd (inB v6 13) (gd (inB (((6 : Int32) * v2) + (gI st 11 v6.toNatClampNeg)) 36) (gd (inB (((6 : Int32) * v2) + (gI st 11 v6.toNatClampNeg)) 36) (bnd (sI st 27 (((6 : Int32) * v2) + (gI st 11 v6.toNatClampNeg)).toNatClampNeg ((gI st 27 (((6 : Int32) * v2) + (gI st 11 v6.toNatClampNeg)).toNatClampNeg) + v4)) (fun st21 => bnd (v5 + v4) (fun x23 => bnd (v6 + (1 : Int32)) (fun x25 => fX12_oweBy_41 n k st21 v2 v3 v4 x23 x25))))))))))
set_option maxHeartbeats 4000000 in
theorem tX12_oweBy_41 {p : Program} {l : Launch} {e : Env} {s : State} {m : MethodId} {args : Array Value} {below : List Frame} {meth : Method} {c : Code} {X : WX} (C : Amb 43 X p s m args meth c cX12_oweBy 7 RX12) (hr : meth.sig.returnType = some .int) {R : Int32 × St} {n : Nat} : ∀ (k : Nat) (st : St) (v2 : Int32) (v3 : Int32) (v4 : Int32) (v5 : Int32) (v6 : Int32) (H : Heap) (locs : List Loc) (ls : Array Slot), Wd EM 43 X s.heap st H locs → lv_has ls 7 [(0, .ref (xq X 0)), (2, .int v2), (3, .int v3), (4, .int v4), (5, .int v5), (6, .int v6)] → fX12_oweBy_41 n k st v2 v3 v4 v5 v6 = some R → W p l e { frames := 5, cells := 0, slots := 0, locals := 120 } s m args below meth c H locs 0 0 (QI EM 43 X R.1 R.2 below args s) (F0 m 41 ls []) := by
  obtain ⟨hx, hb, hml, hown, hts⟩ := id C.1
  intro k
  induction k with
  | zero => intro st v2 v3 v4 v5 v6 H locs ls  hw hl hf; exact absurd (show none = some R from hf) (fun z => by cases z)
  | succ k ih =>
    intro st v2 v3 v4 v5 v6 H locs ls  hw hl hf
    rw [fX12_oweBy_41] at hf
    refine lv_iload hx hb dX12_oweBy_41 (lv_at hl 5 rfl) ?_
    refine lv_aload_n hx hb dX12_oweBy_43 rfl (lv_at hl 0 rfl) ?_
    refine w_get (T := TX12) C hw (by decide) 13 kf_X12_154 (EM_0 X _ _) rfl inA12 (by decide) rfl dX12_oweBy_44 ?_
    refine lv_icmp_ge (tgt := 108) hx hb dX12_oweBy_47 (by decide) (fun c12 => ?_) (fun c12 => ?_)
    · replace hf := ite_t hf c12
      refine lv_iload hx hb dX12_oweBy_108 (lv_at hl 4 rfl) ?_
      exact w_iret C hw hr (so2 hf).1 (so2 hf).2 dX12_oweBy_110
    · replace hf := ite_f hf c12
      refine lv_iload_n hx hb dX12_oweBy_50 rfl (lv_at hl 2 rfl) ?_
      refine lv_iload hx hb dX12_oweBy_51 (lv_at hl 5 rfl) ?_
      refine lv_ishr hx hb dX12_oweBy_53 ?_
      refine lv_iconst (v := 1) hx hb dX12_oweBy_54 (by decide) ?_
      refine lv_iand hx hb dX12_oweBy_55 ?_
      refine lv_if_eq (tgt := 102) hx hb dX12_oweBy_56 (by decide) (fun c13 => ?_) (fun c13 => ?_)
      · replace hf := ite_t hf c13
        obtain ⟨x14, e15⟩ : ∃ z : Int32, z = v6 + (1 : Int32) := ⟨_, rfl⟩
        replace hf := bnd_nm hf e15
        refine lv_iinc (v := x14) (lv' := [(6, .int x14), (0, .ref (xq X 0)), (2, .int v2), (3, .int v3), (4, .int v4), (5, .int v5)]) hx hb dX12_oweBy_102 hl (k := 5) rfl (by rw [e15]; rfl) (by decide) rfl (fun ls hl => ?_)
        refine lv_goto (tgt := 41) hx hb dX12_oweBy_105 (by decide) ?_
        exact ih st v2 v3 v4 v5 x14 _ _ _ hw (lv_sub hl [1, 2, 3, 4, 5, 0] rfl) hf
      · replace hf := ite_f hf c13
        refine lv_aload_n hx hb dX12_oweBy_59 rfl (lv_at hl 0 rfl) ?_
        refine w_get (T := TX12) C hw (by decide) 14 kf_X12_40 (EM_0 X _ _) rfl inA12 (by decide) rfl dX12_oweBy_60 ?_
        refine lv_iload hx hb dX12_oweBy_63 (lv_at hl 5 rfl) ?_
        obtain ⟨h16, hf⟩ := gd_some hf
        refine w_iald C hw (by decide) (EM_11 X _ _) h16 rfl dX12_oweBy_65 ?_
        refine lv_iload_n hx hb dX12_oweBy_66 rfl (lv_at hl 1 rfl) ?_
        refine lv_icmp_ne (tgt := 73) hx hb dX12_oweBy_67 (by decide) (fun c17 => ?_) (fun c17 => ?_)
        · replace hf := ite_f hf c17
          refine lv_aload_n hx hb dX12_oweBy_73 rfl (lv_at hl 0 rfl) ?_
          refine w_get (T := TX12) C hw (by decide) 38 kf_X12_90 (EM_0 X _ _) rfl inA12 (by decide) rfl dX12_oweBy_74 ?_
          refine lv_bipush (v := 6) hx hb dX12_oweBy_77 (by decide) ?_
          refine lv_iload_n hx hb dX12_oweBy_79 rfl (lv_at hl 1 rfl) ?_
          refine lv_imul hx hb dX12_oweBy_80 ?_
          refine lv_aload_n hx hb dX12_oweBy_81 rfl (lv_at hl 0 rfl) ?_
          refine w_get (T := TX12) C hw (by decide) 14 kf_X12_40 (EM_0 X _ _) rfl inA12 (by decide) rfl dX12_oweBy_82 ?_
          refine lv_iload hx hb dX12_oweBy_85 (lv_at hl 5 rfl) ?_
          obtain ⟨h18, hf⟩ := gd_some hf
          refine w_iald C hw (by decide) (EM_11 X _ _) h18 rfl dX12_oweBy_87 ?_
          refine lv_iadd hx hb dX12_oweBy_88 ?_
          refine lv_dup2_11 hx hb dX12_oweBy_89 rfl rfl ?_
          obtain ⟨h19, hf⟩ := gd_some hf
          refine w_iald C hw (by decide) (EM_27 X _ _) h19 rfl dX12_oweBy_90 ?_
          refine lv_iload hx hb dX12_oweBy_91 (lv_at hl 3 rfl) ?_
          refine lv_iadd hx hb dX12_oweBy_93 ?_
          obtain ⟨h20, hf⟩ := gd_some hf
          obtain ⟨st21, es22⟩ : ∃ z : St, z = sI st 27 (((6 : Int32) * v2) + (gI st 11 v6.toNatClampNeg)).toNatClampNeg ((gI st 27 (((6 : Int32) * v2) + (gI st 11 v6.toNatClampNeg)).toNatClampNeg) + v4) := ⟨_, rfl⟩
          replace hf := bnd_nm hf es22
          refine w_iast C hw (by decide) (fun f9 => EM_27 X f9 _) h20 rfl dX12_oweBy_94 (fun H locs hw => ?_)
          rw [← es22] at hw
          refine lv_iload hx hb dX12_oweBy_95 (lv_at hl 4 rfl) ?_
          refine lv_iload hx hb dX12_oweBy_97 (lv_at hl 3 rfl) ?_
          refine lv_iadd hx hb dX12_oweBy_99 ?_
          refine lv_topi (fun x23 e24 => ?_)
          replace hf := bnd_nm hf e24
          refine lv_istore (lv' := [(5, .int x23), (0, .ref (xq X 0)), (2, .int v2), (3, .int v3), (4, .int v4), (6, .int v6)]) hx hb dX12_oweBy_100 hl (by decide) rfl (fun ls hl => ?_)
          obtain ⟨x25, e26⟩ : ∃ z : Int32, z = v6 + (1 : Int32) := ⟨_, rfl⟩
          replace hf := bnd_nm hf e26
          refine lv_iinc (v := x25) (lv' := [(6, .int x25), (5, .int x23), (0, .ref (xq X 0)), (2, .int v2), (3, .int v3), (4, .int v4)]) hx hb dX12_oweBy_102 hl (k := 5) rfl (by rw [e26]; rfl) (by decide) rfl (fun ls hl => ?_)
          refine lv_goto (tgt := 41) hx hb dX12_oweBy_105 (by decide) ?_
          exact ih st21 v2 v3 v4 x23 x25 _ _ _ hw (lv_sub hl [2, 3, 4, 5, 1, 0] rfl) hf
        · replace hf := ite_t hf c17
          refine lv_goto (tgt := 102) hx hb dX12_oweBy_70 (by decide) ?_
          obtain ⟨x27, e28⟩ : ∃ z : Int32, z = v6 + (1 : Int32) := ⟨_, rfl⟩
          replace hf := bnd_nm hf e28
          refine lv_iinc (v := x27) (lv' := [(6, .int x27), (0, .ref (xq X 0)), (2, .int v2), (3, .int v3), (4, .int v4), (5, .int v5)]) hx hb dX12_oweBy_102 hl (k := 5) rfl (by rw [e28]; rfl) (by decide) rfl (fun ls hl => ?_)
          refine lv_goto (tgt := 41) hx hb dX12_oweBy_105 (by decide) ?_
          exact ih st v2 v3 v4 v5 x27 _ _ _ hw (lv_sub hl [1, 2, 3, 4, 5, 0] rfl) hf
def fX12_oweBy_19 (n : Nat) (st : St) (v2 : Int32) (w0 : Int32) : Option (Int32 × St) := if w0 = 0 then (some ((0 : Int32), st)) else ((fX12_bitsOf n w0).bind (fun r7 => gd (decide (¬ r7 = 0)) (bnd ((12 : Int32) / r7) (fun x10 => fX12_oweBy_41 n n st v2 w0 x10 (0 : Int32) (0 : Int32)))))
set_option maxHeartbeats 4000000 in
theorem tX12_oweBy_19 {p : Program} {l : Launch} {e : Env} {s : State} {m : MethodId} {args : Array Value} {below : List Frame} {meth : Method} {c : Code} {X : WX} (C : Amb 43 X p s m args meth c cX12_oweBy 7 RX12) (hr : meth.sig.returnType = some .int) {R : Int32 × St} {n : Nat} : ∀ (st : St) (v2 : Int32) (w0 : Int32) (H : Heap) (locs : List Loc) (ls : Array Slot), Wd EM 43 X s.heap st H locs → lv_has ls 7 [(0, .ref (xq X 0)), (2, .int v2)] → fX12_oweBy_19 n st v2 w0 = some R → W p l e { frames := 5, cells := 0, slots := 0, locals := 120 } s m args below meth c H locs 0 0 (QI EM 43 X R.1 R.2 below args s) (F0 m 19 ls [.int w0]) := by
  obtain ⟨hx, hb, hml, hown, hts⟩ := id C.1
  intro st v2 w0 H locs ls  hw hl hf
  unfold fX12_oweBy_19 at hf
  refine lv_istore_n (lv' := [(3, .int w0), (0, .ref (xq X 0)), (2, .int v2)]) hx hb dX12_oweBy_19 rfl hl (by decide) rfl (fun ls hl => ?_)
  refine lv_iload_n hx hb dX12_oweBy_20 rfl (lv_at hl 0 rfl) ?_
  refine lv_if_ne (tgt := 26) hx hb dX12_oweBy_21 (by decide) (fun c6 => ?_) (fun c6 => ?_)
  · replace hf := ite_f hf c6
    refine lv_bipush (v := 12) hx hb dX12_oweBy_26 (by decide) ?_
    refine lv_iload_n hx hb dX12_oweBy_28 rfl (lv_at hl 0 rfl) ?_
    obtain ⟨r7, k8, hf⟩ := bd_some hf
    refine w_goI hw (w_runS (rest := [.int (12 : Int32)]) C hw (zX12_bitsOf _ _ n st w0 r7 k8) km_X12_306 kt_yX12_bitsOf kz_X12 kc_X12_bitsOf ok_yX12_bitsOf ⟨Nat.le_of_ble_eq_true rfl, Nat.le_of_ble_eq_true rfl⟩ rfl rfl rfl rfl hl.1 (Nat.le_of_ble_eq_true rfl) dX12_oweBy_29 ⟨Nat.zero_le _, Nat.zero_le _⟩) (fun H locs hw => ?_)
    obtain ⟨h9, hf⟩ := gd_some hf
    refine lv_idiv hx hb dX12_oweBy_32 (of_decide_eq_true h9) ?_
    refine lv_topi (fun x10 e11 => ?_)
    replace hf := bnd_nm hf e11
    refine lv_istore (lv' := [(4, .int x10), (3, .int w0), (0, .ref (xq X 0)), (2, .int v2)]) hx hb dX12_oweBy_33 hl (by decide) rfl (fun ls hl => ?_)
    refine lv_iconst (v := 0) hx hb dX12_oweBy_35 (by decide) ?_
    refine lv_istore (lv' := [(5, .int (0 : Int32)), (4, .int x10), (3, .int w0), (0, .ref (xq X 0)), (2, .int v2)]) hx hb dX12_oweBy_36 hl (by decide) rfl (fun ls hl => ?_)
    refine lv_iconst (v := 0) hx hb dX12_oweBy_38 (by decide) ?_
    refine lv_istore (lv' := [(6, .int (0 : Int32)), (5, .int (0 : Int32)), (4, .int x10), (3, .int w0), (0, .ref (xq X 0)), (2, .int v2)]) hx hb dX12_oweBy_39 hl (by decide) rfl (fun ls hl => ?_)
    exact tX12_oweBy_41 C hr n st v2 w0 x10 (0 : Int32) (0 : Int32) _ _ _ hw (lv_sub hl [4, 5, 3, 2, 1, 0] rfl) hf
  · replace hf := ite_t hf c6
    refine lv_iconst (v := 0) hx hb dX12_oweBy_24 (by decide) ?_
    exact w_iret C hw hr (so2 hf).1 (so2 hf).2 dX12_oweBy_25
def fX12_oweBy (n : Nat) (st : St) (a1 : Int32) : Option (Int32 × St) := (fX12_finder n st a1).bind (fun r1 => if 0 ≤ r1 then ((fX12_haveIt n st a1).bind (fun r4 => fX12_oweBy_19 n r4.2 r1 r4.1)) else (fX12_oweBy_19 n st r1 (0 : Int32)))
set_option maxHeartbeats 4000000 in
theorem zX12_oweBy (l : Launch) (X : WX) (n : Nat) (st : St) (a1 : Int32) (R : Int32 × St) (hf : fX12_oweBy n st a1 = some R) : CtI l yX12_oweBy cX12_oweBy 7 .int ({ frames := 5, cells := 0, slots := 0, locals := 120 }) EM 43 X [.ref (xq X 0), .int a1] st R.1 R.2 := by
  refine ct_in (own := RX12) (by decide +kernel) rfl (Nat.le_of_ble_eq_true rfl) (fun p e s m below meth c C hr hw ls hl => ?_)
  obtain ⟨hx, hb, hml, hown, hts⟩ := id C.1
  have hl : lv_has ls 7 [(0, .ref (xq X 0)), (1, .int a1)] := hl
  unfold fX12_oweBy at hf
  refine lv_aload_n hx hb dX12_oweBy_0 rfl (lv_at hl 0 rfl) ?_
  refine lv_iload_n hx hb dX12_oweBy_1 rfl (lv_at hl 1 rfl) ?_
  obtain ⟨r1, k2, hf⟩ := bd_some hf
  refine w_goI hw (w_runV (rest := []) C hw (zX12_finder _ _ n st a1 r1 k2) (by decide) (EM_0 X _ _) rfl km_X12_294 ki_yX12_finder kv_X12_finder kz_X12 kc_X12_finder rfl ok_yX12_finder ⟨Nat.le_of_ble_eq_true rfl, Nat.le_of_ble_eq_true rfl⟩ rfl rfl rfl rfl hl.1 (Nat.le_of_ble_eq_true rfl) dX12_oweBy_2 ⟨Nat.zero_le _, Nat.zero_le _⟩) (fun H locs hw => ?_)
  refine lv_istore_n (lv' := [(2, .int r1), (0, .ref (xq X 0)), (1, .int a1)]) hx hb dX12_oweBy_5 rfl hl (by decide) rfl (fun ls hl => ?_)
  refine lv_iload_n hx hb dX12_oweBy_6 rfl (lv_at hl 0 rfl) ?_
  refine lv_if_ge (tgt := 14) hx hb dX12_oweBy_7 (by decide) (fun c3 => ?_) (fun c3 => ?_)
  · replace hf := ite_t hf c3
    refine lv_aload_n hx hb dX12_oweBy_14 rfl (lv_at hl 1 rfl) ?_
    refine lv_iload_n hx hb dX12_oweBy_15 rfl (lv_at hl 2 rfl) ?_
    obtain ⟨r4, k5, hf⟩ := bd_some hf
    refine w_goI hw (w_runV (rest := []) C hw (zX12_haveIt _ _ n st a1 r4 k5) (by decide) (EM_0 X _ _) rfl km_X12_303 ki_yX12_haveIt kv_X12_haveIt kz_X12 kc_X12_haveIt rfl ok_yX12_haveIt ⟨Nat.le_of_ble_eq_true rfl, Nat.le_of_ble_eq_true rfl⟩ rfl rfl rfl rfl hl.1 (Nat.le_of_ble_eq_true rfl) dX12_oweBy_16 ⟨Nat.zero_le _, Nat.zero_le _⟩) (fun H locs hw => ?_)
    exact tX12_oweBy_19 C hr r4.2 r1 r4.1 _ _ _ hw (lv_sub hl [1, 0] rfl) hf
  · replace hf := ite_f hf c3
    refine lv_iconst (v := 0) hx hb dX12_oweBy_10 (by decide) ?_
    refine lv_goto (tgt := 19) hx hb dX12_oweBy_11 (by decide) ?_
    exact tX12_oweBy_19 C hr st r1 (0 : Int32) _ _ _ hw (lv_sub hl [1, 0] rfl) hf
theorem dX12_findOwed_0 : decode cX12_findOwed 0 = .ok (.iconst 0, 1) := by decide +kernel
theorem dX12_findOwed_1 : decode cX12_findOwed 1 = .ok (.istore_n 1, 1) := by decide +kernel
theorem dX12_findOwed_2 : decode cX12_findOwed 2 = .ok (.iload_n 1, 1) := by decide +kernel
theorem dX12_findOwed_3 : decode cX12_findOwed 3 = .ok (.bipush 36, 2) := by decide +kernel
theorem dX12_findOwed_5 : decode cX12_findOwed 5 = .ok (.if_icmp .ge 16, 3) := by decide +kernel
theorem dX12_findOwed_8 : decode cX12_findOwed 8 = .ok (.aload_n 0, 1) := by decide +kernel
theorem dX12_findOwed_9 : decode cX12_findOwed 9 = .ok (.getfield 90, 3) := by decide +kernel
theorem dX12_findOwed_12 : decode cX12_findOwed 12 = .ok (.iload_n 1, 1) := by decide +kernel
theorem dX12_findOwed_13 : decode cX12_findOwed 13 = .ok (.iconst 0, 1) := by decide +kernel
theorem dX12_findOwed_14 : decode cX12_findOwed 14 = .ok (.iastore, 1) := by decide +kernel
theorem dX12_findOwed_15 : decode cX12_findOwed 15 = .ok (.iinc 1 1, 3) := by decide +kernel
theorem dX12_findOwed_18 : decode cX12_findOwed 18 = .ok (.goto (-16), 3) := by decide +kernel
theorem dX12_findOwed_21 : decode cX12_findOwed 21 = .ok (.iconst 0, 1) := by decide +kernel
theorem dX12_findOwed_22 : decode cX12_findOwed 22 = .ok (.istore_n 1, 1) := by decide +kernel
theorem dX12_findOwed_23 : decode cX12_findOwed 23 = .ok (.iload_n 1, 1) := by decide +kernel
theorem dX12_findOwed_24 : decode cX12_findOwed 24 = .ok (.aload_n 0, 1) := by decide +kernel
theorem dX12_findOwed_25 : decode cX12_findOwed 25 = .ok (.getfield 151, 3) := by decide +kernel
theorem dX12_findOwed_28 : decode cX12_findOwed 28 = .ok (.if_icmp .ge 15, 3) := by decide +kernel
theorem dX12_findOwed_31 : decode cX12_findOwed 31 = .ok (.aload_n 0, 1) := by decide +kernel
theorem dX12_findOwed_32 : decode cX12_findOwed 32 = .ok (.iload_n 1, 1) := by decide +kernel
theorem dX12_findOwed_33 : decode cX12_findOwed 33 = .ok (.invokevirtual 312, 3) := by decide +kernel
theorem dX12_findOwed_36 : decode cX12_findOwed 36 = .ok (.pop, 1) := by decide +kernel
theorem dX12_findOwed_37 : decode cX12_findOwed 37 = .ok (.iinc 1 1, 3) := by decide +kernel
theorem dX12_findOwed_40 : decode cX12_findOwed 40 = .ok (.goto (-17), 3) := by decide +kernel
theorem dX12_findOwed_43 : decode cX12_findOwed 43 = .ok (.return_, 1) := by decide +kernel
theorem ok_yX12_findOwed : yOk yX12_findOwed 0 := ⟨by decide +kernel, by decide +kernel, by decide +kernel⟩
def fX12_findOwed_23 (n : Nat) : Nat → St → Int32 → Option (St)
  | 0, _, _ => none
  | k + 1, st, v1 => if gI st 0 8 ≤ v1 then (some st) else ((fX12_oweBy n st v1).bind (fun r8 => bnd (v1 + (1 : Int32)) (fun x10 => fX12_findOwed_23 n k r8.2 x10)))
set_option maxHeartbeats 4000000 in
theorem tX12_findOwed_23 {p : Program} {l : Launch} {e : Env} {s : State} {m : MethodId} {args : Array Value} {below : List Frame} {meth : Method} {c : Code} {X : WX} (C : Amb 43 X p s m args meth c cX12_findOwed 2 RX12) (hr : meth.sig.returnType = none) {R : St} {n : Nat} : ∀ (k : Nat) (st : St) (v1 : Int32) (H : Heap) (locs : List Loc) (ls : Array Slot), Wd EM 43 X s.heap st H locs → lv_has ls 2 [(0, .ref (xq X 0)), (1, .int v1)] → fX12_findOwed_23 n k st v1 = some R → W p l e { frames := 6, cells := 0, slots := 0, locals := 146 } s m args below meth c H locs 0 0 (QV EM 43 X R below args s) (F0 m 23 ls []) := by
  obtain ⟨hx, hb, hml, hown, hts⟩ := id C.1
  intro k
  induction k with
  | zero => intro st v1 H locs ls  hw hl hf; exact absurd (show none = some R from hf) (fun z => by cases z)
  | succ k ih =>
    intro st v1 H locs ls  hw hl hf
    rw [fX12_findOwed_23] at hf
    refine lv_iload_n hx hb dX12_findOwed_23 rfl (lv_at hl 1 rfl) ?_
    refine lv_aload_n hx hb dX12_findOwed_24 rfl (lv_at hl 0 rfl) ?_
    refine w_get (T := TX12) C hw (by decide) 8 kf_X12_151 (EM_0 X _ _) rfl inA12 (by decide) rfl dX12_findOwed_25 ?_
    refine lv_icmp_ge (tgt := 43) hx hb dX12_findOwed_28 (by decide) (fun c7 => ?_) (fun c7 => ?_)
    · replace hf := ite_t hf c7
      exact w_vret C hw hr (Option.some.inj hf) dX12_findOwed_43
    · replace hf := ite_f hf c7
      refine lv_aload_n hx hb dX12_findOwed_31 rfl (lv_at hl 0 rfl) ?_
      refine lv_iload_n hx hb dX12_findOwed_32 rfl (lv_at hl 1 rfl) ?_
      obtain ⟨r8, k9, hf⟩ := bd_some hf
      refine w_goI hw (w_runV (rest := []) C hw (zX12_oweBy _ _ n st v1 r8 k9) (by decide) (EM_0 X _ _) rfl km_X12_312 ki_yX12_oweBy kv_X12_oweBy kz_X12 kc_X12_oweBy rfl ok_yX12_oweBy ⟨Nat.le_of_ble_eq_true rfl, Nat.le_of_ble_eq_true rfl⟩ rfl rfl rfl rfl hl.1 (Nat.le_of_ble_eq_true rfl) dX12_findOwed_33 ⟨Nat.zero_le _, Nat.zero_le _⟩) (fun H locs hw => ?_)
      refine lv_pop hx hb dX12_findOwed_36 rfl ?_
      obtain ⟨x10, e11⟩ : ∃ z : Int32, z = v1 + (1 : Int32) := ⟨_, rfl⟩
      replace hf := bnd_nm hf e11
      refine lv_iinc (v := x10) (lv' := [(1, .int x10), (0, .ref (xq X 0))]) hx hb dX12_findOwed_37 hl (k := 1) rfl (by rw [e11]; rfl) (by decide) rfl (fun ls hl => ?_)
      refine lv_goto (tgt := 23) hx hb dX12_findOwed_40 (by decide) ?_
      exact ih r8.2 x10 _ _ _ hw (lv_sub hl [1, 0] rfl) hf
def fX12_findOwed_2 (n : Nat) : Nat → St → Int32 → Option (St)
  | 0, _, _ => none
  | k + 1, st, v1 => if (36 : Int32) ≤ v1 then (fX12_findOwed_23 n n st (0 : Int32)) else (gd (inB v1 36) (bnd (sI st 27 v1.toNatClampNeg (0 : Int32)) (fun st3 => bnd (v1 + (1 : Int32)) (fun x5 => fX12_findOwed_2 n k st3 x5))))
set_option maxHeartbeats 4000000 in
theorem tX12_findOwed_2 {p : Program} {l : Launch} {e : Env} {s : State} {m : MethodId} {args : Array Value} {below : List Frame} {meth : Method} {c : Code} {X : WX} (C : Amb 43 X p s m args meth c cX12_findOwed 2 RX12) (hr : meth.sig.returnType = none) {R : St} {n : Nat} : ∀ (k : Nat) (st : St) (v1 : Int32) (H : Heap) (locs : List Loc) (ls : Array Slot), Wd EM 43 X s.heap st H locs → lv_has ls 2 [(0, .ref (xq X 0)), (1, .int v1)] → fX12_findOwed_2 n k st v1 = some R → W p l e { frames := 6, cells := 0, slots := 0, locals := 146 } s m args below meth c H locs 0 0 (QV EM 43 X R below args s) (F0 m 2 ls []) := by
  obtain ⟨hx, hb, hml, hown, hts⟩ := id C.1
  intro k
  induction k with
  | zero => intro st v1 H locs ls  hw hl hf; exact absurd (show none = some R from hf) (fun z => by cases z)
  | succ k ih =>
    intro st v1 H locs ls  hw hl hf
    rw [fX12_findOwed_2] at hf
    refine lv_iload_n hx hb dX12_findOwed_2 rfl (lv_at hl 1 rfl) ?_
    refine lv_bipush (v := 36) hx hb dX12_findOwed_3 (by decide) ?_
    refine lv_icmp_ge (tgt := 21) hx hb dX12_findOwed_5 (by decide) (fun c1 => ?_) (fun c1 => ?_)
    · replace hf := ite_t hf c1
      refine lv_iconst (v := 0) hx hb dX12_findOwed_21 (by decide) ?_
      refine lv_istore_n (lv' := [(1, .int (0 : Int32)), (0, .ref (xq X 0))]) hx hb dX12_findOwed_22 rfl hl (by decide) rfl (fun ls hl => ?_)
      exact tX12_findOwed_23 C hr n st (0 : Int32) _ _ _ hw (lv_sub hl [1, 0] rfl) hf
    · replace hf := ite_f hf c1
      refine lv_aload_n hx hb dX12_findOwed_8 rfl (lv_at hl 0 rfl) ?_
      refine w_get (T := TX12) C hw (by decide) 38 kf_X12_90 (EM_0 X _ _) rfl inA12 (by decide) rfl dX12_findOwed_9 ?_
      refine lv_iload_n hx hb dX12_findOwed_12 rfl (lv_at hl 1 rfl) ?_
      refine lv_iconst (v := 0) hx hb dX12_findOwed_13 (by decide) ?_
      obtain ⟨h2, hf⟩ := gd_some hf
      obtain ⟨st3, es4⟩ : ∃ z : St, z = sI st 27 v1.toNatClampNeg (0 : Int32) := ⟨_, rfl⟩
      replace hf := bnd_nm hf es4
      refine w_iast C hw (by decide) (fun f9 => EM_27 X f9 _) h2 rfl dX12_findOwed_14 (fun H locs hw => ?_)
      rw [← es4] at hw
      obtain ⟨x5, e6⟩ : ∃ z : Int32, z = v1 + (1 : Int32) := ⟨_, rfl⟩
      replace hf := bnd_nm hf e6
      refine lv_iinc (v := x5) (lv' := [(1, .int x5), (0, .ref (xq X 0))]) hx hb dX12_findOwed_15 hl (k := 1) rfl (by rw [e6]; rfl) (by decide) rfl (fun ls hl => ?_)
      refine lv_goto (tgt := 2) hx hb dX12_findOwed_18 (by decide) ?_
      exact ih st3 x5 _ _ _ hw (lv_sub hl [1, 0] rfl) hf
def fX12_findOwed (n : Nat) (st : St) : Option (St) := fX12_findOwed_2 n n st (0 : Int32)
set_option maxHeartbeats 4000000 in
theorem zX12_findOwed (l : Launch) (X : WX) (n : Nat) (st : St)  (R : St) (hf : fX12_findOwed n st = some R) : CtV l yX12_findOwed cX12_findOwed 2 ({ frames := 6, cells := 0, slots := 0, locals := 146 }) EM 43 X [.ref (xq X 0)] st R := by
  refine ct_in (own := RX12) (by decide +kernel) rfl (Nat.le_of_ble_eq_true rfl) (fun p e s m below meth c C hr hw ls hl => ?_)
  obtain ⟨hx, hb, hml, hown, hts⟩ := id C.1
  have hl : lv_has ls 2 [(0, .ref (xq X 0))] := hl
  unfold fX12_findOwed at hf
  refine lv_iconst (v := 0) hx hb dX12_findOwed_0 (by decide) ?_
  refine lv_istore_n (lv' := [(1, .int (0 : Int32)), (0, .ref (xq X 0))]) hx hb dX12_findOwed_1 rfl hl (by decide) rfl (fun ls hl => ?_)
  exact tX12_findOwed_2 C hr n st (0 : Int32) _ _ _ hw (lv_sub hl [1, 0] rfl) hf
theorem dX12_owesAll_0 : decode cX12_owesAll 0 = .ok (.iconst 0, 1) := by decide +kernel
theorem dX12_owesAll_1 : decode cX12_owesAll 1 = .ok (.istore_n 2, 1) := by decide +kernel
theorem dX12_owesAll_2 : decode cX12_owesAll 2 = .ok (.iconst 0, 1) := by decide +kernel
theorem dX12_owesAll_3 : decode cX12_owesAll 3 = .ok (.istore_n 3, 1) := by decide +kernel
theorem dX12_owesAll_4 : decode cX12_owesAll 4 = .ok (.iload_n 3, 1) := by decide +kernel
theorem dX12_owesAll_5 : decode cX12_owesAll 5 = .ok (.bipush 6, 2) := by decide +kernel
theorem dX12_owesAll_7 : decode cX12_owesAll 7 = .ok (.if_icmp .ge 23, 3) := by decide +kernel
theorem dX12_owesAll_10 : decode cX12_owesAll 10 = .ok (.iload_n 2, 1) := by decide +kernel
theorem dX12_owesAll_11 : decode cX12_owesAll 11 = .ok (.aload_n 0, 1) := by decide +kernel
theorem dX12_owesAll_12 : decode cX12_owesAll 12 = .ok (.getfield 90, 3) := by decide +kernel
theorem dX12_owesAll_15 : decode cX12_owesAll 15 = .ok (.bipush 6, 2) := by decide +kernel
theorem dX12_owesAll_17 : decode cX12_owesAll 17 = .ok (.iload_n 1, 1) := by decide +kernel
theorem dX12_owesAll_18 : decode cX12_owesAll 18 = .ok (.imul, 1) := by decide +kernel
theorem dX12_owesAll_19 : decode cX12_owesAll 19 = .ok (.iload_n 3, 1) := by decide +kernel
theorem dX12_owesAll_20 : decode cX12_owesAll 20 = .ok (.iadd, 1) := by decide +kernel
theorem dX12_owesAll_21 : decode cX12_owesAll 21 = .ok (.iaload, 1) := by decide +kernel
theorem dX12_owesAll_22 : decode cX12_owesAll 22 = .ok (.iadd, 1) := by decide +kernel
theorem dX12_owesAll_23 : decode cX12_owesAll 23 = .ok (.istore_n 2, 1) := by decide +kernel
theorem dX12_owesAll_24 : decode cX12_owesAll 24 = .ok (.iinc 3 1, 3) := by decide +kernel
theorem dX12_owesAll_27 : decode cX12_owesAll 27 = .ok (.goto (-23), 3) := by decide +kernel
theorem dX12_owesAll_30 : decode cX12_owesAll 30 = .ok (.iload_n 2, 1) := by decide +kernel
theorem dX12_owesAll_31 : decode cX12_owesAll 31 = .ok (.ireturn, 1) := by decide +kernel
theorem ok_yX12_owesAll : yOk yX12_owesAll 1 := ⟨by decide +kernel, by decide +kernel, by decide +kernel⟩
def fX12_owesAll_4 (n : Nat) (st : St) : Nat → Int32 → Int32 → Int32 → Option (Int32)
  | 0, _, _, _ => none
  | k + 1, v1, v2, v3 => if (6 : Int32) ≤ v3 then (some v2) else (gd (inB (((6 : Int32) * v1) + v3) 36) (bnd (v2 + (gI st 27 (((6 : Int32) * v1) + v3).toNatClampNeg)) (fun x3 => bnd (v3 + (1 : Int32)) (fun x5 => fX12_owesAll_4 n st k v1 x3 x5))))
set_option maxHeartbeats 4000000 in
theorem tX12_owesAll_4 {p : Program} {l : Launch} {e : Env} {s : State} {m : MethodId} {args : Array Value} {below : List Frame} {meth : Method} {c : Code} {X : WX} (C : Amb 43 X p s m args meth c cX12_owesAll 4 RX12) (hr : meth.sig.returnType = some .int) {R : Int32} {n : Nat} {st : St} : ∀ (k : Nat) (v1 : Int32) (v2 : Int32) (v3 : Int32) (H : Heap) (locs : List Loc) (ls : Array Slot), Wd EM 43 X s.heap st H locs → lv_has ls 4 [(0, .ref (xq X 0)), (1, .int v1), (2, .int v2), (3, .int v3)] → fX12_owesAll_4 n st k v1 v2 v3 = some R → W p l e { frames := 0, cells := 0, slots := 0, locals := 0 } s m args below meth c H locs 0 0 (QI EM 43 X R st below args s) (F0 m 4 ls []) := by
  obtain ⟨hx, hb, hml, hown, hts⟩ := id C.1
  intro k
  induction k with
  | zero => intro v1 v2 v3 H locs ls  hw hl hf; exact absurd (show none = some R from hf) (fun z => by cases z)
  | succ k ih =>
    intro v1 v2 v3 H locs ls  hw hl hf
    rw [fX12_owesAll_4] at hf
    refine lv_iload_n hx hb dX12_owesAll_4 rfl (lv_at hl 3 rfl) ?_
    refine lv_bipush (v := 6) hx hb dX12_owesAll_5 (by decide) ?_
    refine lv_icmp_ge (tgt := 30) hx hb dX12_owesAll_7 (by decide) (fun c1 => ?_) (fun c1 => ?_)
    · replace hf := ite_t hf c1
      refine lv_iload_n hx hb dX12_owesAll_30 rfl (lv_at hl 2 rfl) ?_
      exact w_iret C hw hr (Option.some.inj hf) rfl dX12_owesAll_31
    · replace hf := ite_f hf c1
      refine lv_iload_n hx hb dX12_owesAll_10 rfl (lv_at hl 2 rfl) ?_
      refine lv_aload_n hx hb dX12_owesAll_11 rfl (lv_at hl 0 rfl) ?_
      refine w_get (T := TX12) C hw (by decide) 38 kf_X12_90 (EM_0 X _ _) rfl inA12 (by decide) rfl dX12_owesAll_12 ?_
      refine lv_bipush (v := 6) hx hb dX12_owesAll_15 (by decide) ?_
      refine lv_iload_n hx hb dX12_owesAll_17 rfl (lv_at hl 1 rfl) ?_
      refine lv_imul hx hb dX12_owesAll_18 ?_
      refine lv_iload_n hx hb dX12_owesAll_19 rfl (lv_at hl 3 rfl) ?_
      refine lv_iadd hx hb dX12_owesAll_20 ?_
      obtain ⟨h2, hf⟩ := gd_some hf
      refine w_iald C hw (by decide) (EM_27 X _ _) h2 rfl dX12_owesAll_21 ?_
      refine lv_iadd hx hb dX12_owesAll_22 ?_
      refine lv_topi (fun x3 e4 => ?_)
      replace hf := bnd_nm hf e4
      refine lv_istore_n (lv' := [(2, .int x3), (0, .ref (xq X 0)), (1, .int v1), (3, .int v3)]) hx hb dX12_owesAll_23 rfl hl (by decide) rfl (fun ls hl => ?_)
      obtain ⟨x5, e6⟩ : ∃ z : Int32, z = v3 + (1 : Int32) := ⟨_, rfl⟩
      replace hf := bnd_nm hf e6
      refine lv_iinc (v := x5) (lv' := [(3, .int x5), (2, .int x3), (0, .ref (xq X 0)), (1, .int v1)]) hx hb dX12_owesAll_24 hl (k := 3) rfl (by rw [e6]; rfl) (by decide) rfl (fun ls hl => ?_)
      refine lv_goto (tgt := 4) hx hb dX12_owesAll_27 (by decide) ?_
      exact ih v1 x3 x5 _ _ _ hw (lv_sub hl [2, 3, 1, 0] rfl) hf
def fX12_owesAll (n : Nat) (st : St) (a1 : Int32) : Option (Int32) := fX12_owesAll_4 n st n a1 (0 : Int32) (0 : Int32)
set_option maxHeartbeats 4000000 in
theorem zX12_owesAll (l : Launch) (X : WX) (n : Nat) (st : St) (a1 : Int32) (R : Int32) (hf : fX12_owesAll n st a1 = some R) : CtI l yX12_owesAll cX12_owesAll 4 .int ({ frames := 0, cells := 0, slots := 0, locals := 0 }) EM 43 X [.ref (xq X 0), .int a1] st R st := by
  refine ct_in (own := RX12) (by decide +kernel) rfl (Nat.le_of_ble_eq_true rfl) (fun p e s m below meth c C hr hw ls hl => ?_)
  obtain ⟨hx, hb, hml, hown, hts⟩ := id C.1
  have hl : lv_has ls 4 [(0, .ref (xq X 0)), (1, .int a1)] := hl
  unfold fX12_owesAll at hf
  refine lv_iconst (v := 0) hx hb dX12_owesAll_0 (by decide) ?_
  refine lv_istore_n (lv' := [(2, .int (0 : Int32)), (0, .ref (xq X 0)), (1, .int a1)]) hx hb dX12_owesAll_1 rfl hl (by decide) rfl (fun ls hl => ?_)
  refine lv_iconst (v := 0) hx hb dX12_owesAll_2 (by decide) ?_
  refine lv_istore_n (lv' := [(3, .int (0 : Int32)), (2, .int (0 : Int32)), (0, .ref (xq X 0)), (1, .int a1)]) hx hb dX12_owesAll_3 rfl hl (by decide) rfl (fun ls hl => ?_)
  exact tX12_owesAll_4 C hr n a1 (0 : Int32) (0 : Int32) _ _ _ hw (lv_sub hl [2, 3, 1, 0] rfl) hf
theorem dX12_owedAll_0 : decode cX12_owedAll 0 = .ok (.iconst 0, 1) := by decide +kernel
theorem dX12_owedAll_1 : decode cX12_owedAll 1 = .ok (.istore_n 2, 1) := by decide +kernel
theorem dX12_owedAll_2 : decode cX12_owedAll 2 = .ok (.iconst 0, 1) := by decide +kernel
theorem dX12_owedAll_3 : decode cX12_owedAll 3 = .ok (.istore_n 3, 1) := by decide +kernel
theorem dX12_owedAll_4 : decode cX12_owedAll 4 = .ok (.iload_n 3, 1) := by decide +kernel
theorem dX12_owedAll_5 : decode cX12_owedAll 5 = .ok (.bipush 6, 2) := by decide +kernel
theorem dX12_owedAll_7 : decode cX12_owedAll 7 = .ok (.if_icmp .ge 23, 3) := by decide +kernel
theorem dX12_owedAll_10 : decode cX12_owedAll 10 = .ok (.iload_n 2, 1) := by decide +kernel
theorem dX12_owedAll_11 : decode cX12_owedAll 11 = .ok (.aload_n 0, 1) := by decide +kernel
theorem dX12_owedAll_12 : decode cX12_owedAll 12 = .ok (.getfield 90, 3) := by decide +kernel
theorem dX12_owedAll_15 : decode cX12_owedAll 15 = .ok (.bipush 6, 2) := by decide +kernel
theorem dX12_owedAll_17 : decode cX12_owedAll 17 = .ok (.iload_n 3, 1) := by decide +kernel
theorem dX12_owedAll_18 : decode cX12_owedAll 18 = .ok (.imul, 1) := by decide +kernel
theorem dX12_owedAll_19 : decode cX12_owedAll 19 = .ok (.iload_n 1, 1) := by decide +kernel
theorem dX12_owedAll_20 : decode cX12_owedAll 20 = .ok (.iadd, 1) := by decide +kernel
theorem dX12_owedAll_21 : decode cX12_owedAll 21 = .ok (.iaload, 1) := by decide +kernel
theorem dX12_owedAll_22 : decode cX12_owedAll 22 = .ok (.iadd, 1) := by decide +kernel
theorem dX12_owedAll_23 : decode cX12_owedAll 23 = .ok (.istore_n 2, 1) := by decide +kernel
theorem dX12_owedAll_24 : decode cX12_owedAll 24 = .ok (.iinc 3 1, 3) := by decide +kernel
theorem dX12_owedAll_27 : decode cX12_owedAll 27 = .ok (.goto (-23), 3) := by decide +kernel
theorem dX12_owedAll_30 : decode cX12_owedAll 30 = .ok (.iload_n 2, 1) := by decide +kernel
theorem dX12_owedAll_31 : decode cX12_owedAll 31 = .ok (.ireturn, 1) := by decide +kernel
theorem ok_yX12_owedAll : yOk yX12_owedAll 1 := ⟨by decide +kernel, by decide +kernel, by decide +kernel⟩
def fX12_owedAll_4 (n : Nat) (st : St) : Nat → Int32 → Int32 → Int32 → Option (Int32)
  | 0, _, _, _ => none
  | k + 1, v1, v2, v3 => if (6 : Int32) ≤ v3 then (some v2) else (gd (inB (((6 : Int32) * v3) + v1) 36) (bnd (v2 + (gI st 27 (((6 : Int32) * v3) + v1).toNatClampNeg)) (fun x3 => bnd (v3 + (1 : Int32)) (fun x5 => fX12_owedAll_4 n st k v1 x3 x5))))
set_option maxHeartbeats 4000000 in
theorem tX12_owedAll_4 {p : Program} {l : Launch} {e : Env} {s : State} {m : MethodId} {args : Array Value} {below : List Frame} {meth : Method} {c : Code} {X : WX} (C : Amb 43 X p s m args meth c cX12_owedAll 4 RX12) (hr : meth.sig.returnType = some .int) {R : Int32} {n : Nat} {st : St} : ∀ (k : Nat) (v1 : Int32) (v2 : Int32) (v3 : Int32) (H : Heap) (locs : List Loc) (ls : Array Slot), Wd EM 43 X s.heap st H locs → lv_has ls 4 [(0, .ref (xq X 0)), (1, .int v1), (2, .int v2), (3, .int v3)] → fX12_owedAll_4 n st k v1 v2 v3 = some R → W p l e { frames := 0, cells := 0, slots := 0, locals := 0 } s m args below meth c H locs 0 0 (QI EM 43 X R st below args s) (F0 m 4 ls []) := by
  obtain ⟨hx, hb, hml, hown, hts⟩ := id C.1
  intro k
  induction k with
  | zero => intro v1 v2 v3 H locs ls  hw hl hf; exact absurd (show none = some R from hf) (fun z => by cases z)
  | succ k ih =>
    intro v1 v2 v3 H locs ls  hw hl hf
    rw [fX12_owedAll_4] at hf
    refine lv_iload_n hx hb dX12_owedAll_4 rfl (lv_at hl 3 rfl) ?_
    refine lv_bipush (v := 6) hx hb dX12_owedAll_5 (by decide) ?_
    refine lv_icmp_ge (tgt := 30) hx hb dX12_owedAll_7 (by decide) (fun c1 => ?_) (fun c1 => ?_)
    · replace hf := ite_t hf c1
      refine lv_iload_n hx hb dX12_owedAll_30 rfl (lv_at hl 2 rfl) ?_
      exact w_iret C hw hr (Option.some.inj hf) rfl dX12_owedAll_31
    · replace hf := ite_f hf c1
      refine lv_iload_n hx hb dX12_owedAll_10 rfl (lv_at hl 2 rfl) ?_
      refine lv_aload_n hx hb dX12_owedAll_11 rfl (lv_at hl 0 rfl) ?_
      refine w_get (T := TX12) C hw (by decide) 38 kf_X12_90 (EM_0 X _ _) rfl inA12 (by decide) rfl dX12_owedAll_12 ?_
      refine lv_bipush (v := 6) hx hb dX12_owedAll_15 (by decide) ?_
      refine lv_iload_n hx hb dX12_owedAll_17 rfl (lv_at hl 3 rfl) ?_
      refine lv_imul hx hb dX12_owedAll_18 ?_
      refine lv_iload_n hx hb dX12_owedAll_19 rfl (lv_at hl 1 rfl) ?_
      refine lv_iadd hx hb dX12_owedAll_20 ?_
      obtain ⟨h2, hf⟩ := gd_some hf
      refine w_iald C hw (by decide) (EM_27 X _ _) h2 rfl dX12_owedAll_21 ?_
      refine lv_iadd hx hb dX12_owedAll_22 ?_
      refine lv_topi (fun x3 e4 => ?_)
      replace hf := bnd_nm hf e4
      refine lv_istore_n (lv' := [(2, .int x3), (0, .ref (xq X 0)), (1, .int v1), (3, .int v3)]) hx hb dX12_owedAll_23 rfl hl (by decide) rfl (fun ls hl => ?_)
      obtain ⟨x5, e6⟩ : ∃ z : Int32, z = v3 + (1 : Int32) := ⟨_, rfl⟩
      replace hf := bnd_nm hf e6
      refine lv_iinc (v := x5) (lv' := [(3, .int x5), (2, .int x3), (0, .ref (xq X 0)), (1, .int v1)]) hx hb dX12_owedAll_24 hl (k := 3) rfl (by rw [e6]; rfl) (by decide) rfl (fun ls hl => ?_)
      refine lv_goto (tgt := 4) hx hb dX12_owedAll_27 (by decide) ?_
      exact ih v1 x3 x5 _ _ _ hw (lv_sub hl [2, 3, 1, 0] rfl) hf
def fX12_owedAll (n : Nat) (st : St) (a1 : Int32) : Option (Int32) := fX12_owedAll_4 n st n a1 (0 : Int32) (0 : Int32)
set_option maxHeartbeats 4000000 in
theorem zX12_owedAll (l : Launch) (X : WX) (n : Nat) (st : St) (a1 : Int32) (R : Int32) (hf : fX12_owedAll n st a1 = some R) : CtI l yX12_owedAll cX12_owedAll 4 .int ({ frames := 0, cells := 0, slots := 0, locals := 0 }) EM 43 X [.ref (xq X 0), .int a1] st R st := by
  refine ct_in (own := RX12) (by decide +kernel) rfl (Nat.le_of_ble_eq_true rfl) (fun p e s m below meth c C hr hw ls hl => ?_)
  obtain ⟨hx, hb, hml, hown, hts⟩ := id C.1
  have hl : lv_has ls 4 [(0, .ref (xq X 0)), (1, .int a1)] := hl
  unfold fX12_owedAll at hf
  refine lv_iconst (v := 0) hx hb dX12_owedAll_0 (by decide) ?_
  refine lv_istore_n (lv' := [(2, .int (0 : Int32)), (0, .ref (xq X 0)), (1, .int a1)]) hx hb dX12_owedAll_1 rfl hl (by decide) rfl (fun ls hl => ?_)
  refine lv_iconst (v := 0) hx hb dX12_owedAll_2 (by decide) ?_
  refine lv_istore_n (lv' := [(3, .int (0 : Int32)), (2, .int (0 : Int32)), (0, .ref (xq X 0)), (1, .int a1)]) hx hb dX12_owedAll_3 rfl hl (by decide) rfl (fun ls hl => ?_)
  exact tX12_owedAll_4 C hr n a1 (0 : Int32) (0 : Int32) _ _ _ hw (lv_sub hl [2, 3, 1, 0] rfl) hf
theorem dX12_areTwo_0 : decode cX12_areTwo 0 = .ok (.iload_n 0, 1) := by decide +kernel
theorem dX12_areTwo_1 : decode cX12_areTwo 1 = .ok (.ifCond .lt 27, 3) := by decide +kernel
theorem dX12_areTwo_4 : decode cX12_areTwo 4 = .ok (.iload_n 0, 1) := by decide +kernel
theorem dX12_areTwo_5 : decode cX12_areTwo 5 = .ok (.bipush 10, 2) := by decide +kernel
theorem dX12_areTwo_7 : decode cX12_areTwo 7 = .ok (.idiv, 1) := by decide +kernel
theorem dX12_areTwo_8 : decode cX12_areTwo 8 = .ok (.invokestatic 173, 3) := by decide +kernel
theorem dX12_areTwo_11 : decode cX12_areTwo 11 = .ok (.ifCond .eq 17, 3) := by decide +kernel
theorem dX12_areTwo_14 : decode cX12_areTwo 14 = .ok (.iload_n 0, 1) := by decide +kernel
theorem dX12_areTwo_15 : decode cX12_areTwo 15 = .ok (.bipush 10, 2) := by decide +kernel
theorem dX12_areTwo_17 : decode cX12_areTwo 17 = .ok (.irem, 1) := by decide +kernel
theorem dX12_areTwo_18 : decode cX12_areTwo 18 = .ok (.invokestatic 173, 3) := by decide +kernel
theorem dX12_areTwo_21 : decode cX12_areTwo 21 = .ok (.ifCond .eq 7, 3) := by decide +kernel
theorem dX12_areTwo_24 : decode cX12_areTwo 24 = .ok (.iconst 1, 1) := by decide +kernel
theorem dX12_areTwo_25 : decode cX12_areTwo 25 = .ok (.goto 4, 3) := by decide +kernel
theorem dX12_areTwo_28 : decode cX12_areTwo 28 = .ok (.iconst 0, 1) := by decide +kernel
theorem dX12_areTwo_29 : decode cX12_areTwo 29 = .ok (.ireturn, 1) := by decide +kernel
theorem ok_yX12_areTwo : yOk yX12_areTwo 1 := ⟨by decide +kernel, by decide +kernel, by decide +kernel⟩
def fX12_areTwo (a0 : Int32) : Bool := if a0 < 0 then (false) else (if bI (fX12_isPerson (a0 / (10 : Int32))) = 0 then (false) else (if bI (fX12_isPerson (rmI a0 (10 : Int32))) = 0 then (false) else (true)))
set_option maxHeartbeats 4000000 in
theorem zX12_areTwo (l : Launch) (X : WX) (st : St) (a0 : Int32) : CtI l yX12_areTwo cX12_areTwo 1 .boolean ({ frames := 2, cells := 0, slots := 0, locals := 42 }) EM 43 X [.int a0] st (bI (fX12_areTwo a0)) st := by
  generalize hf : fX12_areTwo a0 = R
  refine ct_in (own := RX12) (by decide +kernel) rfl (Nat.le_of_ble_eq_true rfl) (fun p e s m below meth c C hr hw ls hl => ?_)
  obtain ⟨hx, hb, hml, hown, hts⟩ := id C.1
  have hl : lv_has ls 1 [(0, .int a0)] := hl
  unfold fX12_areTwo at hf
  refine lv_iload_n hx hb dX12_areTwo_0 rfl (lv_at hl 0 rfl) ?_
  refine lv_if_lt (tgt := 28) hx hb dX12_areTwo_1 (by decide) (fun c1 => ?_) (fun c1 => ?_)
  · replace hf := ite_t hf c1
    refine lv_iconst (v := 0) hx hb dX12_areTwo_28 (by decide) ?_
    exact w_zret (b := false) C hw hr rfl hf rfl dX12_areTwo_29
  · replace hf := ite_f hf c1
    refine lv_iload_n hx hb dX12_areTwo_4 rfl (lv_at hl 0 rfl) ?_
    refine lv_bipush (v := 10) hx hb dX12_areTwo_5 (by decide) ?_
    refine lv_idiv hx hb dX12_areTwo_7 (by decide) ?_
    refine w_goI hw (w_runS (rest := []) C hw (zX12_isPerson _ _ st (a0 / (10 : Int32))) km_X12_173 kt_yX12_isPerson kz_X12 kc_X12_isPerson ok_yX12_isPerson ⟨Nat.le_of_ble_eq_true rfl, Nat.le_of_ble_eq_true rfl⟩ rfl rfl rfl rfl hl.1 (Nat.le_of_ble_eq_true rfl) dX12_areTwo_8 ⟨Nat.zero_le _, Nat.zero_le _⟩) (fun H locs hw => ?_)
    refine lv_if_eq (tgt := 28) hx hb dX12_areTwo_11 (by decide) (fun c2 => ?_) (fun c2 => ?_)
    · replace hf := ite_t hf c2
      refine lv_iconst (v := 0) hx hb dX12_areTwo_28 (by decide) ?_
      exact w_zret (b := false) C hw hr rfl hf rfl dX12_areTwo_29
    · replace hf := ite_f hf c2
      refine lv_iload_n hx hb dX12_areTwo_14 rfl (lv_at hl 0 rfl) ?_
      refine lv_bipush (v := 10) hx hb dX12_areTwo_15 (by decide) ?_
      refine w_irem C (by decide) dX12_areTwo_17 ?_
      refine w_goI hw (w_runS (rest := []) C hw (zX12_isPerson _ _ st (rmI a0 (10 : Int32))) km_X12_173 kt_yX12_isPerson kz_X12 kc_X12_isPerson ok_yX12_isPerson ⟨Nat.le_of_ble_eq_true rfl, Nat.le_of_ble_eq_true rfl⟩ rfl rfl rfl rfl hl.1 (Nat.le_of_ble_eq_true rfl) dX12_areTwo_18 ⟨Nat.zero_le _, Nat.zero_le _⟩) (fun H locs hw => ?_)
      refine lv_if_eq (tgt := 28) hx hb dX12_areTwo_21 (by decide) (fun c3 => ?_) (fun c3 => ?_)
      · replace hf := ite_t hf c3
        refine lv_iconst (v := 0) hx hb dX12_areTwo_28 (by decide) ?_
        exact w_zret (b := false) C hw hr rfl hf rfl dX12_areTwo_29
      · replace hf := ite_f hf c3
        refine lv_iconst (v := 1) hx hb dX12_areTwo_24 (by decide) ?_
        refine lv_goto (tgt := 29) hx hb dX12_areTwo_25 (by decide) ?_
        exact w_zret (b := true) C hw hr rfl hf rfl dX12_areTwo_29
theorem dX12_owed_0 : decode cX12_owed 0 = .ok (.aload_n 0, 1) := by decide +kernel
theorem dX12_owed_1 : decode cX12_owed 1 = .ok (.invokevirtual 315, 3) := by decide +kernel
theorem dX12_owed_4 : decode cX12_owed 4 = .ok (.iload_n 1, 1) := by decide +kernel
theorem dX12_owed_5 : decode cX12_owed 5 = .ok (.invokestatic 318, 3) := by decide +kernel
theorem dX12_owed_8 : decode cX12_owed 8 = .ok (.ifCond .eq 21, 3) := by decide +kernel
theorem dX12_owed_11 : decode cX12_owed 11 = .ok (.aload_n 0, 1) := by decide +kernel
theorem dX12_owed_12 : decode cX12_owed 12 = .ok (.getfield 90, 3) := by decide +kernel
theorem dX12_owed_15 : decode cX12_owed 15 = .ok (.bipush 6, 2) := by decide +kernel
theorem dX12_owed_17 : decode cX12_owed 17 = .ok (.iload_n 1, 1) := by decide +kernel
theorem dX12_owed_18 : decode cX12_owed 18 = .ok (.bipush 10, 2) := by decide +kernel
theorem dX12_owed_20 : decode cX12_owed 20 = .ok (.idiv, 1) := by decide +kernel
theorem dX12_owed_21 : decode cX12_owed 21 = .ok (.imul, 1) := by decide +kernel
theorem dX12_owed_22 : decode cX12_owed 22 = .ok (.iload_n 1, 1) := by decide +kernel
theorem dX12_owed_23 : decode cX12_owed 23 = .ok (.bipush 10, 2) := by decide +kernel
theorem dX12_owed_25 : decode cX12_owed 25 = .ok (.irem, 1) := by decide +kernel
theorem dX12_owed_26 : decode cX12_owed 26 = .ok (.iadd, 1) := by decide +kernel
theorem dX12_owed_27 : decode cX12_owed 27 = .ok (.iaload, 1) := by decide +kernel
theorem dX12_owed_28 : decode cX12_owed 28 = .ok (.ireturn, 1) := by decide +kernel
theorem dX12_owed_29 : decode cX12_owed 29 = .ok (.iload_n 1, 1) := by decide +kernel
theorem dX12_owed_30 : decode cX12_owed 30 = .ok (.bipush (-6), 2) := by decide +kernel
theorem dX12_owed_32 : decode cX12_owed 32 = .ok (.iconst (-1), 1) := by decide +kernel
theorem dX12_owed_33 : decode cX12_owed 33 = .ok (.invokestatic 147, 3) := by decide +kernel
theorem dX12_owed_36 : decode cX12_owed 36 = .ok (.ifCond .eq 11, 3) := by decide +kernel
theorem dX12_owed_39 : decode cX12_owed 39 = .ok (.aload_n 0, 1) := by decide +kernel
theorem dX12_owed_40 : decode cX12_owed 40 = .ok (.iconst (-1), 1) := by decide +kernel
theorem dX12_owed_41 : decode cX12_owed 41 = .ok (.iload_n 1, 1) := by decide +kernel
theorem dX12_owed_42 : decode cX12_owed 42 = .ok (.isub, 1) := by decide +kernel
theorem dX12_owed_43 : decode cX12_owed 43 = .ok (.invokevirtual 321, 3) := by decide +kernel
theorem dX12_owed_46 : decode cX12_owed 46 = .ok (.ireturn, 1) := by decide +kernel
theorem dX12_owed_47 : decode cX12_owed 47 = .ok (.iload_n 1, 1) := by decide +kernel
theorem dX12_owed_48 : decode cX12_owed 48 = .ok (.bipush (-16), 2) := by decide +kernel
theorem dX12_owed_50 : decode cX12_owed 50 = .ok (.bipush (-11), 2) := by decide +kernel
theorem dX12_owed_52 : decode cX12_owed 52 = .ok (.invokestatic 147, 3) := by decide +kernel
theorem dX12_owed_55 : decode cX12_owed 55 = .ok (.ifCond .eq 14, 3) := by decide +kernel
theorem dX12_owed_58 : decode cX12_owed 58 = .ok (.aload_n 0, 1) := by decide +kernel
theorem dX12_owed_59 : decode cX12_owed 59 = .ok (.bipush (-11), 2) := by decide +kernel
theorem dX12_owed_61 : decode cX12_owed 61 = .ok (.iload_n 1, 1) := by decide +kernel
theorem dX12_owed_62 : decode cX12_owed 62 = .ok (.isub, 1) := by decide +kernel
theorem dX12_owed_63 : decode cX12_owed 63 = .ok (.invokevirtual 324, 3) := by decide +kernel
theorem dX12_owed_66 : decode cX12_owed 66 = .ok (.goto 5, 3) := by decide +kernel
theorem dX12_owed_69 : decode cX12_owed 69 = .ok (.ldc 213, 2) := by decide +kernel
theorem dX12_owed_71 : decode cX12_owed 71 = .ok (.ireturn, 1) := by decide +kernel
theorem ok_yX12_owed : yOk yX12_owed 1 := ⟨by decide +kernel, by decide +kernel, by decide +kernel⟩
def fX12_owed (n : Nat) (st : St) (a1 : Int32) : Option (Int32 × St) := (fX12_findOwed n st).bind (fun r1 => if bI (fX12_areTwo a1) = 0 then (if bI (fX12_in a1 (-6 : Int32) (-1 : Int32)) = 0 then (if bI (fX12_in a1 (-16 : Int32) (-11 : Int32)) = 0 then (some ((-2000000000 : Int32), r1)) else ((fX12_owedAll n r1 ((-11 : Int32) - a1)).bind (fun r6 => some (r6, r1)))) else ((fX12_owesAll n r1 ((-1 : Int32) - a1)).bind (fun r8 => some (r8, r1)))) else (gd (inB (((6 : Int32) * (a1 / (10 : Int32))) + (rmI a1 (10 : Int32))) 36) (some ((gI r1 27 (((6 : Int32) * (a1 / (10 : Int32))) + (rmI a1 (10 : Int32))).toNatClampNeg), r1))))
set_option maxHeartbeats 4000000 in
theorem zX12_owed (l : Launch) (X : WX) (n : Nat) (st : St) (a1 : Int32) (R : Int32 × St) (hf : fX12_owed n st a1 = some R) : CtI l yX12_owed cX12_owed 2 .int ({ frames := 7, cells := 0, slots := 0, locals := 167 }) EM 43 X [.ref (xq X 0), .int a1] st R.1 R.2 := by
  refine ct_in (own := RX12) (by decide +kernel) rfl (Nat.le_of_ble_eq_true rfl) (fun p e s m below meth c C hr hw ls hl => ?_)
  obtain ⟨hx, hb, hml, hown, hts⟩ := id C.1
  have hl : lv_has ls 2 [(0, .ref (xq X 0)), (1, .int a1)] := hl
  unfold fX12_owed at hf
  refine lv_aload_n hx hb dX12_owed_0 rfl (lv_at hl 0 rfl) ?_
  obtain ⟨r1, k2, hf⟩ := bd_some hf
  refine w_goV hw (w_runV (rest := []) C hw (zX12_findOwed _ _ n st r1 k2) (by decide) (EM_0 X _ _) rfl km_X12_315 ki_yX12_findOwed kv_X12_findOwed kz_X12 kc_X12_findOwed rfl ok_yX12_findOwed ⟨Nat.le_of_ble_eq_true rfl, Nat.le_of_ble_eq_true rfl⟩ rfl rfl rfl rfl hl.1 (Nat.le_of_ble_eq_true rfl) dX12_owed_1 ⟨Nat.zero_le _, Nat.zero_le _⟩) (fun H locs hw => ?_)
  refine lv_iload_n hx hb dX12_owed_4 rfl (lv_at hl 1 rfl) ?_
  refine w_goI hw (w_runS (rest := []) C hw (zX12_areTwo _ _ r1 a1) km_X12_318 kt_yX12_areTwo kz_X12 kc_X12_areTwo ok_yX12_areTwo ⟨Nat.le_of_ble_eq_true rfl, Nat.le_of_ble_eq_true rfl⟩ rfl rfl rfl rfl hl.1 (Nat.le_of_ble_eq_true rfl) dX12_owed_5 ⟨Nat.zero_le _, Nat.zero_le _⟩) (fun H locs hw => ?_)
  refine lv_if_eq (tgt := 29) hx hb dX12_owed_8 (by decide) (fun c3 => ?_) (fun c3 => ?_)
  · replace hf := ite_t hf c3
    refine lv_iload_n hx hb dX12_owed_29 rfl (lv_at hl 1 rfl) ?_
    refine lv_bipush (v := -6) hx hb dX12_owed_30 (by decide) ?_
    refine lv_iconst (v := -1) hx hb dX12_owed_32 (by decide) ?_
    refine w_goI hw (w_runS (rest := []) C hw (zX12_in _ _ r1 a1 (-6 : Int32) (-1 : Int32)) km_X12_147 kt_yX12_in kz_X12 kc_X12_in ok_yX12_in ⟨Nat.le_of_ble_eq_true rfl, Nat.le_of_ble_eq_true rfl⟩ rfl rfl rfl rfl hl.1 (Nat.le_of_ble_eq_true rfl) dX12_owed_33 ⟨Nat.zero_le _, Nat.zero_le _⟩) (fun H locs hw => ?_)
    refine lv_if_eq (tgt := 47) hx hb dX12_owed_36 (by decide) (fun c4 => ?_) (fun c4 => ?_)
    · replace hf := ite_t hf c4
      refine lv_iload_n hx hb dX12_owed_47 rfl (lv_at hl 1 rfl) ?_
      refine lv_bipush (v := -16) hx hb dX12_owed_48 (by decide) ?_
      refine lv_bipush (v := -11) hx hb dX12_owed_50 (by decide) ?_
      refine w_goI hw (w_runS (rest := []) C hw (zX12_in _ _ r1 a1 (-16 : Int32) (-11 : Int32)) km_X12_147 kt_yX12_in kz_X12 kc_X12_in ok_yX12_in ⟨Nat.le_of_ble_eq_true rfl, Nat.le_of_ble_eq_true rfl⟩ rfl rfl rfl rfl hl.1 (Nat.le_of_ble_eq_true rfl) dX12_owed_52 ⟨Nat.zero_le _, Nat.zero_le _⟩) (fun H locs hw => ?_)
      refine lv_if_eq (tgt := 69) hx hb dX12_owed_55 (by decide) (fun c5 => ?_) (fun c5 => ?_)
      · replace hf := ite_t hf c5
        refine lv_ldc (v := -2000000000) hx hb hown (hts _ kn_X12_213) dX12_owed_69 ?_
        exact w_iret C hw hr (so2 hf).1 (so2 hf).2 dX12_owed_71
      · replace hf := ite_f hf c5
        refine lv_aload_n hx hb dX12_owed_58 rfl (lv_at hl 0 rfl) ?_
        refine lv_bipush (v := -11) hx hb dX12_owed_59 (by decide) ?_
        refine lv_iload_n hx hb dX12_owed_61 rfl (lv_at hl 1 rfl) ?_
        refine lv_isub hx hb dX12_owed_62 ?_
        obtain ⟨r6, k7, hf⟩ := bd_some hf
        refine w_goI hw (w_runV (rest := []) C hw (zX12_owedAll _ _ n r1 ((-11 : Int32) - a1) r6 k7) (by decide) (EM_0 X _ _) rfl km_X12_324 ki_yX12_owedAll kv_X12_owedAll kz_X12 kc_X12_owedAll rfl ok_yX12_owedAll ⟨Nat.le_of_ble_eq_true rfl, Nat.le_of_ble_eq_true rfl⟩ rfl rfl rfl rfl hl.1 (Nat.le_of_ble_eq_true rfl) dX12_owed_63 ⟨Nat.zero_le _, Nat.zero_le _⟩) (fun H locs hw => ?_)
        refine lv_goto (tgt := 71) hx hb dX12_owed_66 (by decide) ?_
        exact w_iret C hw hr (so2 hf).1 (so2 hf).2 dX12_owed_71
    · replace hf := ite_f hf c4
      refine lv_aload_n hx hb dX12_owed_39 rfl (lv_at hl 0 rfl) ?_
      refine lv_iconst (v := -1) hx hb dX12_owed_40 (by decide) ?_
      refine lv_iload_n hx hb dX12_owed_41 rfl (lv_at hl 1 rfl) ?_
      refine lv_isub hx hb dX12_owed_42 ?_
      obtain ⟨r8, k9, hf⟩ := bd_some hf
      refine w_goI hw (w_runV (rest := []) C hw (zX12_owesAll _ _ n r1 ((-1 : Int32) - a1) r8 k9) (by decide) (EM_0 X _ _) rfl km_X12_321 ki_yX12_owesAll kv_X12_owesAll kz_X12 kc_X12_owesAll rfl ok_yX12_owesAll ⟨Nat.le_of_ble_eq_true rfl, Nat.le_of_ble_eq_true rfl⟩ rfl rfl rfl rfl hl.1 (Nat.le_of_ble_eq_true rfl) dX12_owed_43 ⟨Nat.zero_le _, Nat.zero_le _⟩) (fun H locs hw => ?_)
      exact w_iret C hw hr (so2 hf).1 (so2 hf).2 dX12_owed_46
  · replace hf := ite_f hf c3
    refine lv_aload_n hx hb dX12_owed_11 rfl (lv_at hl 0 rfl) ?_
    refine w_get (T := TX12) C hw (by decide) 38 kf_X12_90 (EM_0 X _ _) rfl inA12 (by decide) rfl dX12_owed_12 ?_
    refine lv_bipush (v := 6) hx hb dX12_owed_15 (by decide) ?_
    refine lv_iload_n hx hb dX12_owed_17 rfl (lv_at hl 1 rfl) ?_
    refine lv_bipush (v := 10) hx hb dX12_owed_18 (by decide) ?_
    refine lv_idiv hx hb dX12_owed_20 (by decide) ?_
    refine lv_imul hx hb dX12_owed_21 ?_
    refine lv_iload_n hx hb dX12_owed_22 rfl (lv_at hl 1 rfl) ?_
    refine lv_bipush (v := 10) hx hb dX12_owed_23 (by decide) ?_
    refine w_irem C (by decide) dX12_owed_25 ?_
    refine lv_iadd hx hb dX12_owed_26 ?_
    obtain ⟨h10, hf⟩ := gd_some hf
    refine w_iald C hw (by decide) (EM_27 X _ _) h10 rfl dX12_owed_27 ?_
    exact w_iret C hw hr (so2 hf).1 (so2 hf).2 dX12_owed_28
theorem dX12_haveBoth_0 : decode cX12_haveBoth 0 = .ok (.iconst 0, 1) := by decide +kernel
theorem dX12_haveBoth_1 : decode cX12_haveBoth 1 = .ok (.istore_n 3, 1) := by decide +kernel
theorem dX12_haveBoth_2 : decode cX12_haveBoth 2 = .ok (.iload_n 3, 1) := by decide +kernel
theorem dX12_haveBoth_3 : decode cX12_haveBoth 3 = .ok (.aload_n 0, 1) := by decide +kernel
theorem dX12_haveBoth_4 : decode cX12_haveBoth 4 = .ok (.getfield 151, 3) := by decide +kernel
theorem dX12_haveBoth_7 : decode cX12_haveBoth 7 = .ok (.if_icmp .ge 38, 3) := by decide +kernel
theorem dX12_haveBoth_10 : decode cX12_haveBoth 10 = .ok (.aload_n 0, 1) := by decide +kernel
theorem dX12_haveBoth_11 : decode cX12_haveBoth 11 = .ok (.iload_n 3, 1) := by decide +kernel
theorem dX12_haveBoth_12 : decode cX12_haveBoth 12 = .ok (.invokevirtual 303, 3) := by decide +kernel
theorem dX12_haveBoth_15 : decode cX12_haveBoth 15 = .ok (.istore 4, 2) := by decide +kernel
theorem dX12_haveBoth_17 : decode cX12_haveBoth 17 = .ok (.iload 4, 2) := by decide +kernel
theorem dX12_haveBoth_19 : decode cX12_haveBoth 19 = .ok (.iload_n 1, 1) := by decide +kernel
theorem dX12_haveBoth_20 : decode cX12_haveBoth 20 = .ok (.ishr, 1) := by decide +kernel
theorem dX12_haveBoth_21 : decode cX12_haveBoth 21 = .ok (.iconst 1, 1) := by decide +kernel
theorem dX12_haveBoth_22 : decode cX12_haveBoth 22 = .ok (.iand, 1) := by decide +kernel
theorem dX12_haveBoth_23 : decode cX12_haveBoth 23 = .ok (.iconst 1, 1) := by decide +kernel
theorem dX12_haveBoth_24 : decode cX12_haveBoth 24 = .ok (.if_icmp .ne 15, 3) := by decide +kernel
theorem dX12_haveBoth_27 : decode cX12_haveBoth 27 = .ok (.iload 4, 2) := by decide +kernel
theorem dX12_haveBoth_29 : decode cX12_haveBoth 29 = .ok (.iload_n 2, 1) := by decide +kernel
theorem dX12_haveBoth_30 : decode cX12_haveBoth 30 = .ok (.ishr, 1) := by decide +kernel
theorem dX12_haveBoth_31 : decode cX12_haveBoth 31 = .ok (.iconst 1, 1) := by decide +kernel
theorem dX12_haveBoth_32 : decode cX12_haveBoth 32 = .ok (.iand, 1) := by decide +kernel
theorem dX12_haveBoth_33 : decode cX12_haveBoth 33 = .ok (.iconst 1, 1) := by decide +kernel
theorem dX12_haveBoth_34 : decode cX12_haveBoth 34 = .ok (.if_icmp .ne 5, 3) := by decide +kernel
theorem dX12_haveBoth_37 : decode cX12_haveBoth 37 = .ok (.iconst 1, 1) := by decide +kernel
theorem dX12_haveBoth_38 : decode cX12_haveBoth 38 = .ok (.ireturn, 1) := by decide +kernel
theorem dX12_haveBoth_39 : decode cX12_haveBoth 39 = .ok (.iinc 3 1, 3) := by decide +kernel
theorem dX12_haveBoth_42 : decode cX12_haveBoth 42 = .ok (.goto (-40), 3) := by decide +kernel
theorem dX12_haveBoth_45 : decode cX12_haveBoth 45 = .ok (.iconst 0, 1) := by decide +kernel
theorem dX12_haveBoth_46 : decode cX12_haveBoth 46 = .ok (.ireturn, 1) := by decide +kernel
theorem ok_yX12_haveBoth : yOk yX12_haveBoth 2 := ⟨by decide +kernel, by decide +kernel, by decide +kernel⟩
def fX12_haveBoth_2 (n : Nat) : Nat → St → Int32 → Int32 → Int32 → Option (Bool × St)
  | 0, _, _, _, _ => none
  | k + 1, st, v1, v2, v3 => if gI st 0 8 ≤ v3 then (some (false, st)) else ((fX12_haveIt n st v3).bind (fun r2 => if (r2.1 >>> (v1 &&& 31)) &&& (1 : Int32) = (1 : Int32) then (if (r2.1 >>> (v2 &&& 31)) &&& (1 : Int32) = (1 : Int32) then (some (true, r2.2)) else (bnd (v3 + (1 : Int32)) (fun x8 => fX12_haveBoth_2 n k r2.2 v1 v2 x8))) else (bnd (v3 + (1 : Int32)) (fun x5 => fX12_haveBoth_2 n k r2.2 v1 v2 x5))))
set_option maxHeartbeats 4000000 in
theorem tX12_haveBoth_2 {p : Program} {l : Launch} {e : Env} {s : State} {m : MethodId} {args : Array Value} {below : List Frame} {meth : Method} {c : Code} {X : WX} (C : Amb 43 X p s m args meth c cX12_haveBoth 5 RX12) (hr : meth.sig.returnType = some .boolean) {R : Bool × St} {n : Nat} : ∀ (k : Nat) (st : St) (v1 : Int32) (v2 : Int32) (v3 : Int32) (H : Heap) (locs : List Loc) (ls : Array Slot), Wd EM 43 X s.heap st H locs → lv_has ls 5 [(0, .ref (xq X 0)), (1, .int v1), (2, .int v2), (3, .int v3)] → fX12_haveBoth_2 n k st v1 v2 v3 = some R → W p l e { frames := 5, cells := 0, slots := 0, locals := 120 } s m args below meth c H locs 0 0 (QI EM 43 X (bI R.1) R.2 below args s) (F0 m 2 ls []) := by
  obtain ⟨hx, hb, hml, hown, hts⟩ := id C.1
  intro k
  induction k with
  | zero => intro st v1 v2 v3 H locs ls  hw hl hf; exact absurd (show none = some R from hf) (fun z => by cases z)
  | succ k ih =>
    intro st v1 v2 v3 H locs ls  hw hl hf
    rw [fX12_haveBoth_2] at hf
    refine lv_iload_n hx hb dX12_haveBoth_2 rfl (lv_at hl 3 rfl) ?_
    refine lv_aload_n hx hb dX12_haveBoth_3 rfl (lv_at hl 0 rfl) ?_
    refine w_get (T := TX12) C hw (by decide) 8 kf_X12_151 (EM_0 X _ _) rfl inA12 (by decide) rfl dX12_haveBoth_4 ?_
    refine lv_icmp_ge (tgt := 45) hx hb dX12_haveBoth_7 (by decide) (fun c1 => ?_) (fun c1 => ?_)
    · replace hf := ite_t hf c1
      refine lv_iconst (v := 0) hx hb dX12_haveBoth_45 (by decide) ?_
      exact w_zret (b := false) C hw hr rfl (so2 hf).1 (so2 hf).2 dX12_haveBoth_46
    · replace hf := ite_f hf c1
      refine lv_aload_n hx hb dX12_haveBoth_10 rfl (lv_at hl 0 rfl) ?_
      refine lv_iload_n hx hb dX12_haveBoth_11 rfl (lv_at hl 3 rfl) ?_
      obtain ⟨r2, k3, hf⟩ := bd_some hf
      refine w_goI hw (w_runV (rest := []) C hw (zX12_haveIt _ _ n st v3 r2 k3) (by decide) (EM_0 X _ _) rfl km_X12_303 ki_yX12_haveIt kv_X12_haveIt kz_X12 kc_X12_haveIt rfl ok_yX12_haveIt ⟨Nat.le_of_ble_eq_true rfl, Nat.le_of_ble_eq_true rfl⟩ rfl rfl rfl rfl hl.1 (Nat.le_of_ble_eq_true rfl) dX12_haveBoth_12 ⟨Nat.zero_le _, Nat.zero_le _⟩) (fun H locs hw => ?_)
      refine lv_istore (lv' := [(4, .int r2.1), (0, .ref (xq X 0)), (1, .int v1), (2, .int v2), (3, .int v3)]) hx hb dX12_haveBoth_15 hl (by decide) rfl (fun ls hl => ?_)
      refine lv_iload hx hb dX12_haveBoth_17 (lv_at hl 0 rfl) ?_
      refine lv_iload_n hx hb dX12_haveBoth_19 rfl (lv_at hl 2 rfl) ?_
      refine lv_ishr hx hb dX12_haveBoth_20 ?_
      refine lv_iconst (v := 1) hx hb dX12_haveBoth_21 (by decide) ?_
      refine lv_iand hx hb dX12_haveBoth_22 ?_
      refine lv_iconst (v := 1) hx hb dX12_haveBoth_23 (by decide) ?_
      refine lv_icmp_ne (tgt := 39) hx hb dX12_haveBoth_24 (by decide) (fun c4 => ?_) (fun c4 => ?_)
      · replace hf := ite_f hf c4
        obtain ⟨x5, e6⟩ : ∃ z : Int32, z = v3 + (1 : Int32) := ⟨_, rfl⟩
        replace hf := bnd_nm hf e6
        refine lv_iinc (v := x5) (lv' := [(3, .int x5), (4, .int r2.1), (0, .ref (xq X 0)), (1, .int v1), (2, .int v2)]) hx hb dX12_haveBoth_39 hl (k := 4) rfl (by rw [e6]; rfl) (by decide) rfl (fun ls hl => ?_)
        refine lv_goto (tgt := 2) hx hb dX12_haveBoth_42 (by decide) ?_
        exact ih r2.2 v1 v2 x5 _ _ _ hw (lv_sub hl [2, 3, 4, 0] rfl) hf
      · replace hf := ite_t hf c4
        refine lv_iload hx hb dX12_haveBoth_27 (lv_at hl 0 rfl) ?_
        refine lv_iload_n hx hb dX12_haveBoth_29 rfl (lv_at hl 3 rfl) ?_
        refine lv_ishr hx hb dX12_haveBoth_30 ?_
        refine lv_iconst (v := 1) hx hb dX12_haveBoth_31 (by decide) ?_
        refine lv_iand hx hb dX12_haveBoth_32 ?_
        refine lv_iconst (v := 1) hx hb dX12_haveBoth_33 (by decide) ?_
        refine lv_icmp_ne (tgt := 39) hx hb dX12_haveBoth_34 (by decide) (fun c7 => ?_) (fun c7 => ?_)
        · replace hf := ite_f hf c7
          obtain ⟨x8, e9⟩ : ∃ z : Int32, z = v3 + (1 : Int32) := ⟨_, rfl⟩
          replace hf := bnd_nm hf e9
          refine lv_iinc (v := x8) (lv' := [(3, .int x8), (4, .int r2.1), (0, .ref (xq X 0)), (1, .int v1), (2, .int v2)]) hx hb dX12_haveBoth_39 hl (k := 4) rfl (by rw [e9]; rfl) (by decide) rfl (fun ls hl => ?_)
          refine lv_goto (tgt := 2) hx hb dX12_haveBoth_42 (by decide) ?_
          exact ih r2.2 v1 v2 x8 _ _ _ hw (lv_sub hl [2, 3, 4, 0] rfl) hf
        · replace hf := ite_t hf c7
          refine lv_iconst (v := 1) hx hb dX12_haveBoth_37 (by decide) ?_
          exact w_zret (b := true) C hw hr rfl (so2 hf).1 (so2 hf).2 dX12_haveBoth_38
def fX12_haveBoth (n : Nat) (st : St) (a1 : Int32) (a2 : Int32) : Option (Bool × St) := fX12_haveBoth_2 n n st a1 a2 (0 : Int32)
set_option maxHeartbeats 4000000 in
theorem zX12_haveBoth (l : Launch) (X : WX) (n : Nat) (st : St) (a1 : Int32) (a2 : Int32) (R : Bool × St) (hf : fX12_haveBoth n st a1 a2 = some R) : CtI l yX12_haveBoth cX12_haveBoth 5 .boolean ({ frames := 5, cells := 0, slots := 0, locals := 120 }) EM 43 X [.ref (xq X 0), .int a1, .int a2] st (bI R.1) R.2 := by
  refine ct_in (own := RX12) (by decide +kernel) rfl (Nat.le_of_ble_eq_true rfl) (fun p e s m below meth c C hr hw ls hl => ?_)
  obtain ⟨hx, hb, hml, hown, hts⟩ := id C.1
  have hl : lv_has ls 5 [(0, .ref (xq X 0)), (1, .int a1), (2, .int a2)] := hl
  unfold fX12_haveBoth at hf
  refine lv_iconst (v := 0) hx hb dX12_haveBoth_0 (by decide) ?_
  refine lv_istore_n (lv' := [(3, .int (0 : Int32)), (0, .ref (xq X 0)), (1, .int a1), (2, .int a2)]) hx hb dX12_haveBoth_1 rfl hl (by decide) rfl (fun ls hl => ?_)
  exact tX12_haveBoth_2 C hr n st a1 a2 (0 : Int32) _ _ _ hw (lv_sub hl [1, 2, 3, 0] rfl) hf
theorem dX12_quarrel_0 : decode cX12_quarrel 0 = .ok (.iconst 0, 1) := by decide +kernel
theorem dX12_quarrel_1 : decode cX12_quarrel 1 = .ok (.istore_n 1, 1) := by decide +kernel
theorem dX12_quarrel_2 : decode cX12_quarrel 2 = .ok (.iload_n 1, 1) := by decide +kernel
theorem dX12_quarrel_3 : decode cX12_quarrel 3 = .ok (.aload_n 0, 1) := by decide +kernel
theorem dX12_quarrel_4 : decode cX12_quarrel 4 = .ok (.getfield 154, 3) := by decide +kernel
theorem dX12_quarrel_7 : decode cX12_quarrel 7 = .ok (.if_icmp .ge 58, 3) := by decide +kernel
theorem dX12_quarrel_10 : decode cX12_quarrel 10 = .ok (.iload_n 1, 1) := by decide +kernel
theorem dX12_quarrel_11 : decode cX12_quarrel 11 = .ok (.iconst 1, 1) := by decide +kernel
theorem dX12_quarrel_12 : decode cX12_quarrel 12 = .ok (.iadd, 1) := by decide +kernel
theorem dX12_quarrel_13 : decode cX12_quarrel 13 = .ok (.istore_n 2, 1) := by decide +kernel
theorem dX12_quarrel_14 : decode cX12_quarrel 14 = .ok (.iload_n 2, 1) := by decide +kernel
theorem dX12_quarrel_15 : decode cX12_quarrel 15 = .ok (.aload_n 0, 1) := by decide +kernel
theorem dX12_quarrel_16 : decode cX12_quarrel 16 = .ok (.getfield 154, 3) := by decide +kernel
theorem dX12_quarrel_19 : decode cX12_quarrel 19 = .ok (.if_icmp .ge 40, 3) := by decide +kernel
theorem dX12_quarrel_22 : decode cX12_quarrel 22 = .ok (.aload_n 0, 1) := by decide +kernel
theorem dX12_quarrel_23 : decode cX12_quarrel 23 = .ok (.getfield 40, 3) := by decide +kernel
theorem dX12_quarrel_26 : decode cX12_quarrel 26 = .ok (.iload_n 1, 1) := by decide +kernel
theorem dX12_quarrel_27 : decode cX12_quarrel 27 = .ok (.iaload, 1) := by decide +kernel
theorem dX12_quarrel_28 : decode cX12_quarrel 28 = .ok (.aload_n 0, 1) := by decide +kernel
theorem dX12_quarrel_29 : decode cX12_quarrel 29 = .ok (.getfield 40, 3) := by decide +kernel
theorem dX12_quarrel_32 : decode cX12_quarrel 32 = .ok (.iload_n 2, 1) := by decide +kernel
theorem dX12_quarrel_33 : decode cX12_quarrel 33 = .ok (.iaload, 1) := by decide +kernel
theorem dX12_quarrel_34 : decode cX12_quarrel 34 = .ok (.if_icmp .eq 19, 3) := by decide +kernel
theorem dX12_quarrel_37 : decode cX12_quarrel 37 = .ok (.aload_n 0, 1) := by decide +kernel
theorem dX12_quarrel_38 : decode cX12_quarrel 38 = .ok (.iload_n 1, 1) := by decide +kernel
theorem dX12_quarrel_39 : decode cX12_quarrel 39 = .ok (.iload_n 2, 1) := by decide +kernel
theorem dX12_quarrel_40 : decode cX12_quarrel 40 = .ok (.invokevirtual 327, 3) := by decide +kernel
theorem dX12_quarrel_43 : decode cX12_quarrel 43 = .ok (.ifCond .eq 10, 3) := by decide +kernel
theorem dX12_quarrel_46 : decode cX12_quarrel 46 = .ok (.bipush 100, 2) := by decide +kernel
theorem dX12_quarrel_48 : decode cX12_quarrel 48 = .ok (.iload_n 1, 1) := by decide +kernel
theorem dX12_quarrel_49 : decode cX12_quarrel 49 = .ok (.imul, 1) := by decide +kernel
theorem dX12_quarrel_50 : decode cX12_quarrel 50 = .ok (.iload_n 2, 1) := by decide +kernel
theorem dX12_quarrel_51 : decode cX12_quarrel 51 = .ok (.iadd, 1) := by decide +kernel
theorem dX12_quarrel_52 : decode cX12_quarrel 52 = .ok (.ireturn, 1) := by decide +kernel
theorem dX12_quarrel_53 : decode cX12_quarrel 53 = .ok (.iinc 2 1, 3) := by decide +kernel
theorem dX12_quarrel_56 : decode cX12_quarrel 56 = .ok (.goto (-42), 3) := by decide +kernel
theorem dX12_quarrel_59 : decode cX12_quarrel 59 = .ok (.iinc 1 1, 3) := by decide +kernel
theorem dX12_quarrel_62 : decode cX12_quarrel 62 = .ok (.goto (-60), 3) := by decide +kernel
theorem dX12_quarrel_65 : decode cX12_quarrel 65 = .ok (.bipush (-2), 2) := by decide +kernel
theorem dX12_quarrel_67 : decode cX12_quarrel 67 = .ok (.ireturn, 1) := by decide +kernel
theorem ok_yX12_quarrel : yOk yX12_quarrel 0 := ⟨by decide +kernel, by decide +kernel, by decide +kernel⟩
def fX12_quarrel_14 (kB2 : St → Int32 → Option (Int32 × St)) (n : Nat) : Nat → St → Int32 → Int32 → Option (Int32 × St)
  | 0, _, _, _ => none
  | k + 1, st, v1, v2 => if gI st 0 13 ≤ v2 then (bnd (v1 + (1 : Int32)) (fun x5 => kB2 st x5)) else (gd (inB v1 13) (gd (inB v2 13) (if gI st 11 v1.toNatClampNeg = gI st 11 v2.toNatClampNeg then (bnd (v2 + (1 : Int32)) (fun x10 => fX12_quarrel_14 kB2 n k st v1 x10)) else ((fX12_haveBoth n st v1 v2).bind (fun r12 => if bI r12.1 = 0 then (bnd (v2 + (1 : Int32)) (fun x15 => fX12_quarrel_14 kB2 n k r12.2 v1 x15)) else (some ((((100 : Int32) * v1) + v2), r12.2)))))))
set_option maxHeartbeats 4000000 in
theorem tX12_quarrel_14 {p : Program} {l : Launch} {e : Env} {s : State} {m : MethodId} {args : Array Value} {below : List Frame} {meth : Method} {c : Code} {X : WX} (C : Amb 43 X p s m args meth c cX12_quarrel 3 RX12) (hr : meth.sig.returnType = some .int) {R : Int32 × St} {n : Nat} {kB2 : St → Int32 → Option (Int32 × St)} (hB2 : ∀ (st : St) (v1 : Int32) (H : Heap) (locs : List Loc) (ls : Array Slot), Wd EM 43 X s.heap st H locs → lv_has ls 3 [(0, .ref (xq X 0)), (1, .int v1)] → kB2 st v1 = some R → W p l e { frames := 6, cells := 0, slots := 0, locals := 144 } s m args below meth c H locs 0 0 (QI EM 43 X R.1 R.2 below args s) (F0 m 2 ls [])) : ∀ (k : Nat) (st : St) (v1 : Int32) (v2 : Int32) (H : Heap) (locs : List Loc) (ls : Array Slot), Wd EM 43 X s.heap st H locs → lv_has ls 3 [(0, .ref (xq X 0)), (1, .int v1), (2, .int v2)] → fX12_quarrel_14 kB2 n k st v1 v2 = some R → W p l e { frames := 6, cells := 0, slots := 0, locals := 144 } s m args below meth c H locs 0 0 (QI EM 43 X R.1 R.2 below args s) (F0 m 14 ls []) := by
  obtain ⟨hx, hb, hml, hown, hts⟩ := id C.1
  intro k
  induction k with
  | zero => intro st v1 v2 H locs ls  hw hl hf; exact absurd (show none = some R from hf) (fun z => by cases z)
  | succ k ih =>
    intro st v1 v2 H locs ls  hw hl hf
    rw [fX12_quarrel_14] at hf
    refine lv_iload_n hx hb dX12_quarrel_14 rfl (lv_at hl 2 rfl) ?_
    refine lv_aload_n hx hb dX12_quarrel_15 rfl (lv_at hl 0 rfl) ?_
    refine w_get (T := TX12) C hw (by decide) 13 kf_X12_154 (EM_0 X _ _) rfl inA12 (by decide) rfl dX12_quarrel_16 ?_
    refine lv_icmp_ge (tgt := 59) hx hb dX12_quarrel_19 (by decide) (fun c4 => ?_) (fun c4 => ?_)
    · replace hf := ite_t hf c4
      obtain ⟨x5, e6⟩ : ∃ z : Int32, z = v1 + (1 : Int32) := ⟨_, rfl⟩
      replace hf := bnd_nm hf e6
      refine lv_iinc (v := x5) (lv' := [(1, .int x5), (0, .ref (xq X 0)), (2, .int v2)]) hx hb dX12_quarrel_59 hl (k := 1) rfl (by rw [e6]; rfl) (by decide) rfl (fun ls hl => ?_)
      refine lv_goto (tgt := 2) hx hb dX12_quarrel_62 (by decide) ?_
      exact hB2 st x5 _ _ _ hw (lv_sub hl [1, 0] rfl) hf
    · replace hf := ite_f hf c4
      refine lv_aload_n hx hb dX12_quarrel_22 rfl (lv_at hl 0 rfl) ?_
      refine w_get (T := TX12) C hw (by decide) 14 kf_X12_40 (EM_0 X _ _) rfl inA12 (by decide) rfl dX12_quarrel_23 ?_
      refine lv_iload_n hx hb dX12_quarrel_26 rfl (lv_at hl 1 rfl) ?_
      obtain ⟨h7, hf⟩ := gd_some hf
      refine w_iald C hw (by decide) (EM_11 X _ _) h7 rfl dX12_quarrel_27 ?_
      refine lv_aload_n hx hb dX12_quarrel_28 rfl (lv_at hl 0 rfl) ?_
      refine w_get (T := TX12) C hw (by decide) 14 kf_X12_40 (EM_0 X _ _) rfl inA12 (by decide) rfl dX12_quarrel_29 ?_
      refine lv_iload_n hx hb dX12_quarrel_32 rfl (lv_at hl 2 rfl) ?_
      obtain ⟨h8, hf⟩ := gd_some hf
      refine w_iald C hw (by decide) (EM_11 X _ _) h8 rfl dX12_quarrel_33 ?_
      refine lv_icmp_eq (tgt := 53) hx hb dX12_quarrel_34 (by decide) (fun c9 => ?_) (fun c9 => ?_)
      · replace hf := ite_t hf c9
        obtain ⟨x10, e11⟩ : ∃ z : Int32, z = v2 + (1 : Int32) := ⟨_, rfl⟩
        replace hf := bnd_nm hf e11
        refine lv_iinc (v := x10) (lv' := [(2, .int x10), (0, .ref (xq X 0)), (1, .int v1)]) hx hb dX12_quarrel_53 hl (k := 2) rfl (by rw [e11]; rfl) (by decide) rfl (fun ls hl => ?_)
        refine lv_goto (tgt := 14) hx hb dX12_quarrel_56 (by decide) ?_
        exact ih st v1 x10 _ _ _ hw (lv_sub hl [1, 2, 0] rfl) hf
      · replace hf := ite_f hf c9
        refine lv_aload_n hx hb dX12_quarrel_37 rfl (lv_at hl 0 rfl) ?_
        refine lv_iload_n hx hb dX12_quarrel_38 rfl (lv_at hl 1 rfl) ?_
        refine lv_iload_n hx hb dX12_quarrel_39 rfl (lv_at hl 2 rfl) ?_
        obtain ⟨r12, k13, hf⟩ := bd_some hf
        refine w_goI hw (w_runV (rest := []) C hw (zX12_haveBoth _ _ n st v1 v2 r12 k13) (by decide) (EM_0 X _ _) rfl km_X12_327 ki_yX12_haveBoth kv_X12_haveBoth kz_X12 kc_X12_haveBoth rfl ok_yX12_haveBoth ⟨Nat.le_of_ble_eq_true rfl, Nat.le_of_ble_eq_true rfl⟩ rfl rfl rfl rfl hl.1 (Nat.le_of_ble_eq_true rfl) dX12_quarrel_40 ⟨Nat.zero_le _, Nat.zero_le _⟩) (fun H locs hw => ?_)
        refine lv_if_eq (tgt := 53) hx hb dX12_quarrel_43 (by decide) (fun c14 => ?_) (fun c14 => ?_)
        · replace hf := ite_t hf c14
          obtain ⟨x15, e16⟩ : ∃ z : Int32, z = v2 + (1 : Int32) := ⟨_, rfl⟩
          replace hf := bnd_nm hf e16
          refine lv_iinc (v := x15) (lv' := [(2, .int x15), (0, .ref (xq X 0)), (1, .int v1)]) hx hb dX12_quarrel_53 hl (k := 2) rfl (by rw [e16]; rfl) (by decide) rfl (fun ls hl => ?_)
          refine lv_goto (tgt := 14) hx hb dX12_quarrel_56 (by decide) ?_
          exact ih r12.2 v1 x15 _ _ _ hw (lv_sub hl [1, 2, 0] rfl) hf
        · replace hf := ite_f hf c14
          refine lv_bipush (v := 100) hx hb dX12_quarrel_46 (by decide) ?_
          refine lv_iload_n hx hb dX12_quarrel_48 rfl (lv_at hl 1 rfl) ?_
          refine lv_imul hx hb dX12_quarrel_49 ?_
          refine lv_iload_n hx hb dX12_quarrel_50 rfl (lv_at hl 2 rfl) ?_
          refine lv_iadd hx hb dX12_quarrel_51 ?_
          exact w_iret C hw hr (so2 hf).1 (so2 hf).2 dX12_quarrel_52
def fX12_quarrel_2 (n : Nat) : Nat → St → Int32 → Option (Int32 × St)
  | 0, _, _ => none
  | k + 1, st, v1 => if gI st 0 13 ≤ v1 then (some ((-2 : Int32), st)) else (bnd (v1 + (1 : Int32)) (fun x2 => fX12_quarrel_14 (fX12_quarrel_2 n k) n n st v1 x2))
set_option maxHeartbeats 4000000 in
theorem tX12_quarrel_2 {p : Program} {l : Launch} {e : Env} {s : State} {m : MethodId} {args : Array Value} {below : List Frame} {meth : Method} {c : Code} {X : WX} (C : Amb 43 X p s m args meth c cX12_quarrel 3 RX12) (hr : meth.sig.returnType = some .int) {R : Int32 × St} {n : Nat} : ∀ (k : Nat) (st : St) (v1 : Int32) (H : Heap) (locs : List Loc) (ls : Array Slot), Wd EM 43 X s.heap st H locs → lv_has ls 3 [(0, .ref (xq X 0)), (1, .int v1)] → fX12_quarrel_2 n k st v1 = some R → W p l e { frames := 6, cells := 0, slots := 0, locals := 144 } s m args below meth c H locs 0 0 (QI EM 43 X R.1 R.2 below args s) (F0 m 2 ls []) := by
  obtain ⟨hx, hb, hml, hown, hts⟩ := id C.1
  intro k
  induction k with
  | zero => intro st v1 H locs ls  hw hl hf; exact absurd (show none = some R from hf) (fun z => by cases z)
  | succ k ih =>
    intro st v1 H locs ls  hw hl hf
    rw [fX12_quarrel_2] at hf
    refine lv_iload_n hx hb dX12_quarrel_2 rfl (lv_at hl 1 rfl) ?_
    refine lv_aload_n hx hb dX12_quarrel_3 rfl (lv_at hl 0 rfl) ?_
    refine w_get (T := TX12) C hw (by decide) 13 kf_X12_154 (EM_0 X _ _) rfl inA12 (by decide) rfl dX12_quarrel_4 ?_
    refine lv_icmp_ge (tgt := 65) hx hb dX12_quarrel_7 (by decide) (fun c1 => ?_) (fun c1 => ?_)
    · replace hf := ite_t hf c1
      refine lv_bipush (v := -2) hx hb dX12_quarrel_65 (by decide) ?_
      exact w_iret C hw hr (so2 hf).1 (so2 hf).2 dX12_quarrel_67
    · replace hf := ite_f hf c1
      refine lv_iload_n hx hb dX12_quarrel_10 rfl (lv_at hl 1 rfl) ?_
      refine lv_iconst (v := 1) hx hb dX12_quarrel_11 (by decide) ?_
      refine lv_iadd hx hb dX12_quarrel_12 ?_
      refine lv_topi (fun x2 e3 => ?_)
      replace hf := bnd_nm hf e3
      refine lv_istore_n (lv' := [(2, .int x2), (0, .ref (xq X 0)), (1, .int v1)]) hx hb dX12_quarrel_13 rfl hl (by decide) rfl (fun ls hl => ?_)
      exact tX12_quarrel_14 C hr ih n st v1 x2 _ _ _ hw (lv_sub hl [1, 2, 0] rfl) hf
def fX12_quarrel (n : Nat) (st : St) : Option (Int32 × St) := fX12_quarrel_2 n n st (0 : Int32)
set_option maxHeartbeats 4000000 in
theorem zX12_quarrel (l : Launch) (X : WX) (n : Nat) (st : St)  (R : Int32 × St) (hf : fX12_quarrel n st = some R) : CtI l yX12_quarrel cX12_quarrel 3 .int ({ frames := 6, cells := 0, slots := 0, locals := 144 }) EM 43 X [.ref (xq X 0)] st R.1 R.2 := by
  refine ct_in (own := RX12) (by decide +kernel) rfl (Nat.le_of_ble_eq_true rfl) (fun p e s m below meth c C hr hw ls hl => ?_)
  obtain ⟨hx, hb, hml, hown, hts⟩ := id C.1
  have hl : lv_has ls 3 [(0, .ref (xq X 0))] := hl
  unfold fX12_quarrel at hf
  refine lv_iconst (v := 0) hx hb dX12_quarrel_0 (by decide) ?_
  refine lv_istore_n (lv' := [(1, .int (0 : Int32)), (0, .ref (xq X 0))]) hx hb dX12_quarrel_1 rfl hl (by decide) rfl (fun ls hl => ?_)
  exact tX12_quarrel_2 C hr n st (0 : Int32) _ _ _ hw (lv_sub hl [1, 0] rfl) hf
theorem dX12_hasMany_0 : decode cX12_hasMany 0 = .ok (.iconst 0, 1) := by decide +kernel
theorem dX12_hasMany_1 : decode cX12_hasMany 1 = .ok (.istore_n 2, 1) := by decide +kernel
theorem dX12_hasMany_2 : decode cX12_hasMany 2 = .ok (.iconst 0, 1) := by decide +kernel
theorem dX12_hasMany_3 : decode cX12_hasMany 3 = .ok (.istore_n 3, 1) := by decide +kernel
theorem dX12_hasMany_4 : decode cX12_hasMany 4 = .ok (.iload_n 3, 1) := by decide +kernel
theorem dX12_hasMany_5 : decode cX12_hasMany 5 = .ok (.aload_n 0, 1) := by decide +kernel
theorem dX12_hasMany_6 : decode cX12_hasMany 6 = .ok (.getfield 151, 3) := by decide +kernel
theorem dX12_hasMany_9 : decode cX12_hasMany 9 = .ok (.if_icmp .ge 21, 3) := by decide +kernel
theorem dX12_hasMany_12 : decode cX12_hasMany 12 = .ok (.iload_n 2, 1) := by decide +kernel
theorem dX12_hasMany_13 : decode cX12_hasMany 13 = .ok (.aload_n 0, 1) := by decide +kernel
theorem dX12_hasMany_14 : decode cX12_hasMany 14 = .ok (.iload_n 3, 1) := by decide +kernel
theorem dX12_hasMany_15 : decode cX12_hasMany 15 = .ok (.invokevirtual 303, 3) := by decide +kernel
theorem dX12_hasMany_18 : decode cX12_hasMany 18 = .ok (.iload_n 1, 1) := by decide +kernel
theorem dX12_hasMany_19 : decode cX12_hasMany 19 = .ok (.ishr, 1) := by decide +kernel
theorem dX12_hasMany_20 : decode cX12_hasMany 20 = .ok (.iconst 1, 1) := by decide +kernel
theorem dX12_hasMany_21 : decode cX12_hasMany 21 = .ok (.iand, 1) := by decide +kernel
theorem dX12_hasMany_22 : decode cX12_hasMany 22 = .ok (.iadd, 1) := by decide +kernel
theorem dX12_hasMany_23 : decode cX12_hasMany 23 = .ok (.istore_n 2, 1) := by decide +kernel
theorem dX12_hasMany_24 : decode cX12_hasMany 24 = .ok (.iinc 3 1, 3) := by decide +kernel
theorem dX12_hasMany_27 : decode cX12_hasMany 27 = .ok (.goto (-23), 3) := by decide +kernel
theorem dX12_hasMany_30 : decode cX12_hasMany 30 = .ok (.iload_n 2, 1) := by decide +kernel
theorem dX12_hasMany_31 : decode cX12_hasMany 31 = .ok (.ireturn, 1) := by decide +kernel
theorem ok_yX12_hasMany : yOk yX12_hasMany 1 := ⟨by decide +kernel, by decide +kernel, by decide +kernel⟩
def fX12_hasMany_4 (n : Nat) : Nat → St → Int32 → Int32 → Int32 → Option (Int32 × St)
  | 0, _, _, _, _ => none
  | k + 1, st, v1, v2, v3 => if gI st 0 8 ≤ v3 then (some (v2, st)) else ((fX12_haveIt n st v3).bind (fun r2 => bnd (v2 + ((r2.1 >>> (v1 &&& 31)) &&& (1 : Int32))) (fun x4 => bnd (v3 + (1 : Int32)) (fun x6 => fX12_hasMany_4 n k r2.2 v1 x4 x6))))
set_option maxHeartbeats 4000000 in
theorem tX12_hasMany_4 {p : Program} {l : Launch} {e : Env} {s : State} {m : MethodId} {args : Array Value} {below : List Frame} {meth : Method} {c : Code} {X : WX} (C : Amb 43 X p s m args meth c cX12_hasMany 4 RX12) (hr : meth.sig.returnType = some .int) {R : Int32 × St} {n : Nat} : ∀ (k : Nat) (st : St) (v1 : Int32) (v2 : Int32) (v3 : Int32) (H : Heap) (locs : List Loc) (ls : Array Slot), Wd EM 43 X s.heap st H locs → lv_has ls 4 [(0, .ref (xq X 0)), (1, .int v1), (2, .int v2), (3, .int v3)] → fX12_hasMany_4 n k st v1 v2 v3 = some R → W p l e { frames := 5, cells := 0, slots := 0, locals := 120 } s m args below meth c H locs 0 0 (QI EM 43 X R.1 R.2 below args s) (F0 m 4 ls []) := by
  obtain ⟨hx, hb, hml, hown, hts⟩ := id C.1
  intro k
  induction k with
  | zero => intro st v1 v2 v3 H locs ls  hw hl hf; exact absurd (show none = some R from hf) (fun z => by cases z)
  | succ k ih =>
    intro st v1 v2 v3 H locs ls  hw hl hf
    rw [fX12_hasMany_4] at hf
    refine lv_iload_n hx hb dX12_hasMany_4 rfl (lv_at hl 3 rfl) ?_
    refine lv_aload_n hx hb dX12_hasMany_5 rfl (lv_at hl 0 rfl) ?_
    refine w_get (T := TX12) C hw (by decide) 8 kf_X12_151 (EM_0 X _ _) rfl inA12 (by decide) rfl dX12_hasMany_6 ?_
    refine lv_icmp_ge (tgt := 30) hx hb dX12_hasMany_9 (by decide) (fun c1 => ?_) (fun c1 => ?_)
    · replace hf := ite_t hf c1
      refine lv_iload_n hx hb dX12_hasMany_30 rfl (lv_at hl 2 rfl) ?_
      exact w_iret C hw hr (so2 hf).1 (so2 hf).2 dX12_hasMany_31
    · replace hf := ite_f hf c1
      refine lv_iload_n hx hb dX12_hasMany_12 rfl (lv_at hl 2 rfl) ?_
      refine lv_aload_n hx hb dX12_hasMany_13 rfl (lv_at hl 0 rfl) ?_
      refine lv_iload_n hx hb dX12_hasMany_14 rfl (lv_at hl 3 rfl) ?_
      obtain ⟨r2, k3, hf⟩ := bd_some hf
      refine w_goI hw (w_runV (rest := [.int v2]) C hw (zX12_haveIt _ _ n st v3 r2 k3) (by decide) (EM_0 X _ _) rfl km_X12_303 ki_yX12_haveIt kv_X12_haveIt kz_X12 kc_X12_haveIt rfl ok_yX12_haveIt ⟨Nat.le_of_ble_eq_true rfl, Nat.le_of_ble_eq_true rfl⟩ rfl rfl rfl rfl hl.1 (Nat.le_of_ble_eq_true rfl) dX12_hasMany_15 ⟨Nat.zero_le _, Nat.zero_le _⟩) (fun H locs hw => ?_)
      refine lv_iload_n hx hb dX12_hasMany_18 rfl (lv_at hl 1 rfl) ?_
      refine lv_ishr hx hb dX12_hasMany_19 ?_
      refine lv_iconst (v := 1) hx hb dX12_hasMany_20 (by decide) ?_
      refine lv_iand hx hb dX12_hasMany_21 ?_
      refine lv_iadd hx hb dX12_hasMany_22 ?_
      refine lv_topi (fun x4 e5 => ?_)
      replace hf := bnd_nm hf e5
      refine lv_istore_n (lv' := [(2, .int x4), (0, .ref (xq X 0)), (1, .int v1), (3, .int v3)]) hx hb dX12_hasMany_23 rfl hl (by decide) rfl (fun ls hl => ?_)
      obtain ⟨x6, e7⟩ : ∃ z : Int32, z = v3 + (1 : Int32) := ⟨_, rfl⟩
      replace hf := bnd_nm hf e7
      refine lv_iinc (v := x6) (lv' := [(3, .int x6), (2, .int x4), (0, .ref (xq X 0)), (1, .int v1)]) hx hb dX12_hasMany_24 hl (k := 3) rfl (by rw [e7]; rfl) (by decide) rfl (fun ls hl => ?_)
      refine lv_goto (tgt := 4) hx hb dX12_hasMany_27 (by decide) ?_
      exact ih r2.2 v1 x4 x6 _ _ _ hw (lv_sub hl [2, 3, 1, 0] rfl) hf
def fX12_hasMany (n : Nat) (st : St) (a1 : Int32) : Option (Int32 × St) := fX12_hasMany_4 n n st a1 (0 : Int32) (0 : Int32)
set_option maxHeartbeats 4000000 in
theorem zX12_hasMany (l : Launch) (X : WX) (n : Nat) (st : St) (a1 : Int32) (R : Int32 × St) (hf : fX12_hasMany n st a1 = some R) : CtI l yX12_hasMany cX12_hasMany 4 .int ({ frames := 5, cells := 0, slots := 0, locals := 120 }) EM 43 X [.ref (xq X 0), .int a1] st R.1 R.2 := by
  refine ct_in (own := RX12) (by decide +kernel) rfl (Nat.le_of_ble_eq_true rfl) (fun p e s m below meth c C hr hw ls hl => ?_)
  obtain ⟨hx, hb, hml, hown, hts⟩ := id C.1
  have hl : lv_has ls 4 [(0, .ref (xq X 0)), (1, .int a1)] := hl
  unfold fX12_hasMany at hf
  refine lv_iconst (v := 0) hx hb dX12_hasMany_0 (by decide) ?_
  refine lv_istore_n (lv' := [(2, .int (0 : Int32)), (0, .ref (xq X 0)), (1, .int a1)]) hx hb dX12_hasMany_1 rfl hl (by decide) rfl (fun ls hl => ?_)
  refine lv_iconst (v := 0) hx hb dX12_hasMany_2 (by decide) ?_
  refine lv_istore_n (lv' := [(3, .int (0 : Int32)), (2, .int (0 : Int32)), (0, .ref (xq X 0)), (1, .int a1)]) hx hb dX12_hasMany_3 rfl hl (by decide) rfl (fun ls hl => ?_)
  exact tX12_hasMany_4 C hr n st a1 (0 : Int32) (0 : Int32) _ _ _ hw (lv_sub hl [2, 3, 1, 0] rfl) hf
theorem dX12_busiest_0 : decode cX12_busiest 0 = .ok (.bipush (-2), 2) := by decide +kernel
theorem dX12_busiest_2 : decode cX12_busiest 2 = .ok (.istore_n 2, 1) := by decide +kernel
theorem dX12_busiest_3 : decode cX12_busiest 3 = .ok (.iconst 0, 1) := by decide +kernel
theorem dX12_busiest_4 : decode cX12_busiest 4 = .ok (.istore_n 3, 1) := by decide +kernel
theorem dX12_busiest_5 : decode cX12_busiest 5 = .ok (.iconst 0, 1) := by decide +kernel
theorem dX12_busiest_6 : decode cX12_busiest 6 = .ok (.istore 4, 2) := by decide +kernel
theorem dX12_busiest_8 : decode cX12_busiest 8 = .ok (.iload 4, 2) := by decide +kernel
theorem dX12_busiest_10 : decode cX12_busiest 10 = .ok (.aload_n 0, 1) := by decide +kernel
theorem dX12_busiest_11 : decode cX12_busiest 11 = .ok (.getfield 154, 3) := by decide +kernel
theorem dX12_busiest_14 : decode cX12_busiest 14 = .ok (.if_icmp .ge 32, 3) := by decide +kernel
theorem dX12_busiest_17 : decode cX12_busiest 17 = .ok (.aload_n 0, 1) := by decide +kernel
theorem dX12_busiest_18 : decode cX12_busiest 18 = .ok (.iload 4, 2) := by decide +kernel
theorem dX12_busiest_20 : decode cX12_busiest 20 = .ok (.invokevirtual 330, 3) := by decide +kernel
theorem dX12_busiest_23 : decode cX12_busiest 23 = .ok (.istore 5, 2) := by decide +kernel
theorem dX12_busiest_25 : decode cX12_busiest 25 = .ok (.iload 5, 2) := by decide +kernel
theorem dX12_busiest_27 : decode cX12_busiest 27 = .ok (.iload_n 3, 1) := by decide +kernel
theorem dX12_busiest_28 : decode cX12_busiest 28 = .ok (.if_icmp .gt 6, 3) := by decide +kernel
theorem dX12_busiest_31 : decode cX12_busiest 31 = .ok (.goto 9, 3) := by decide +kernel
theorem dX12_busiest_34 : decode cX12_busiest 34 = .ok (.iload 4, 2) := by decide +kernel
theorem dX12_busiest_36 : decode cX12_busiest 36 = .ok (.istore_n 2, 1) := by decide +kernel
theorem dX12_busiest_37 : decode cX12_busiest 37 = .ok (.iload 5, 2) := by decide +kernel
theorem dX12_busiest_39 : decode cX12_busiest 39 = .ok (.istore_n 3, 1) := by decide +kernel
theorem dX12_busiest_40 : decode cX12_busiest 40 = .ok (.iinc 4 1, 3) := by decide +kernel
theorem dX12_busiest_43 : decode cX12_busiest 43 = .ok (.goto (-35), 3) := by decide +kernel
theorem dX12_busiest_46 : decode cX12_busiest 46 = .ok (.iload_n 1, 1) := by decide +kernel
theorem dX12_busiest_47 : decode cX12_busiest 47 = .ok (.ifCond .eq 7, 3) := by decide +kernel
theorem dX12_busiest_50 : decode cX12_busiest 50 = .ok (.iload_n 3, 1) := by decide +kernel
theorem dX12_busiest_51 : decode cX12_busiest 51 = .ok (.goto 4, 3) := by decide +kernel
theorem dX12_busiest_54 : decode cX12_busiest 54 = .ok (.iload_n 2, 1) := by decide +kernel
theorem dX12_busiest_55 : decode cX12_busiest 55 = .ok (.ireturn, 1) := by decide +kernel
theorem ok_yX12_busiest : yOk yX12_busiest 1 := ⟨by decide +kernel, by decide +kernel, by decide +kernel⟩
def fX12_busiest_8 (n : Nat) : Nat → St → Int32 → Int32 → Int32 → Int32 → Option (Int32 × St)
  | 0, _, _, _, _, _ => none
  | k + 1, st, v1, v2, v3, v4 => if gI st 0 13 ≤ v4 then (if v1 = 0 then (some (v2, st)) else (some (v3, st))) else ((fX12_hasMany n st v4).bind (fun r3 => if v3 < r3.1 then (bnd (v4 + (1 : Int32)) (fun x6 => fX12_busiest_8 n k r3.2 v1 v4 r3.1 x6)) else (bnd (v4 + (1 : Int32)) (fun x8 => fX12_busiest_8 n k r3.2 v1 v2 v3 x8))))
set_option maxHeartbeats 4000000 in
theorem tX12_busiest_8 {p : Program} {l : Launch} {e : Env} {s : State} {m : MethodId} {args : Array Value} {below : List Frame} {meth : Method} {c : Code} {X : WX} (C : Amb 43 X p s m args meth c cX12_busiest 6 RX12) (hr : meth.sig.returnType = some .int) {R : Int32 × St} {n : Nat} : ∀ (k : Nat) (st : St) (v1 : Int32) (v2 : Int32) (v3 : Int32) (v4 : Int32) (H : Heap) (locs : List Loc) (ls : Array Slot), Wd EM 43 X s.heap st H locs → lv_has ls 6 [(0, .ref (xq X 0)), (1, .int v1), (2, .int v2), (3, .int v3), (4, .int v4)] → fX12_busiest_8 n k st v1 v2 v3 v4 = some R → W p l e { frames := 6, cells := 0, slots := 0, locals := 143 } s m args below meth c H locs 0 0 (QI EM 43 X R.1 R.2 below args s) (F0 m 8 ls []) := by
  obtain ⟨hx, hb, hml, hown, hts⟩ := id C.1
  intro k
  induction k with
  | zero => intro st v1 v2 v3 v4 H locs ls  hw hl hf; exact absurd (show none = some R from hf) (fun z => by cases z)
  | succ k ih =>
    intro st v1 v2 v3 v4 H locs ls  hw hl hf
    rw [fX12_busiest_8] at hf
    refine lv_iload hx hb dX12_busiest_8 (lv_at hl 4 rfl) ?_
    refine lv_aload_n hx hb dX12_busiest_10 rfl (lv_at hl 0 rfl) ?_
    refine w_get (T := TX12) C hw (by decide) 13 kf_X12_154 (EM_0 X _ _) rfl inA12 (by decide) rfl dX12_busiest_11 ?_
    refine lv_icmp_ge (tgt := 46) hx hb dX12_busiest_14 (by decide) (fun c1 => ?_) (fun c1 => ?_)
    · replace hf := ite_t hf c1
      refine lv_iload_n hx hb dX12_busiest_46 rfl (lv_at hl 1 rfl) ?_
      refine lv_if_eq (tgt := 54) hx hb dX12_busiest_47 (by decide) (fun c2 => ?_) (fun c2 => ?_)
      · replace hf := ite_t hf c2
        refine lv_iload_n hx hb dX12_busiest_54 rfl (lv_at hl 2 rfl) ?_
        exact w_iret C hw hr (so2 hf).1 (so2 hf).2 dX12_busiest_55
      · replace hf := ite_f hf c2
        refine lv_iload_n hx hb dX12_busiest_50 rfl (lv_at hl 3 rfl) ?_
        refine lv_goto (tgt := 55) hx hb dX12_busiest_51 (by decide) ?_
        exact w_iret C hw hr (so2 hf).1 (so2 hf).2 dX12_busiest_55
    · replace hf := ite_f hf c1
      refine lv_aload_n hx hb dX12_busiest_17 rfl (lv_at hl 0 rfl) ?_
      refine lv_iload hx hb dX12_busiest_18 (lv_at hl 4 rfl) ?_
      obtain ⟨r3, k4, hf⟩ := bd_some hf
      refine w_goI hw (w_runV (rest := []) C hw (zX12_hasMany _ _ n st v4 r3 k4) (by decide) (EM_0 X _ _) rfl km_X12_330 ki_yX12_hasMany kv_X12_hasMany kz_X12 kc_X12_hasMany rfl ok_yX12_hasMany ⟨Nat.le_of_ble_eq_true rfl, Nat.le_of_ble_eq_true rfl⟩ rfl rfl rfl rfl hl.1 (Nat.le_of_ble_eq_true rfl) dX12_busiest_20 ⟨Nat.zero_le _, Nat.zero_le _⟩) (fun H locs hw => ?_)
      refine lv_istore (lv' := [(5, .int r3.1), (0, .ref (xq X 0)), (1, .int v1), (2, .int v2), (3, .int v3), (4, .int v4)]) hx hb dX12_busiest_23 hl (by decide) rfl (fun ls hl => ?_)
      refine lv_iload hx hb dX12_busiest_25 (lv_at hl 0 rfl) ?_
      refine lv_iload_n hx hb dX12_busiest_27 rfl (lv_at hl 4 rfl) ?_
      refine lv_icmp_gt (tgt := 34) hx hb dX12_busiest_28 (by decide) (fun c5 => ?_) (fun c5 => ?_)
      · replace hf := ite_t hf c5
        refine lv_iload hx hb dX12_busiest_34 (lv_at hl 5 rfl) ?_
        refine lv_istore_n (lv' := [(2, .int v4), (5, .int r3.1), (0, .ref (xq X 0)), (1, .int v1), (3, .int v3), (4, .int v4)]) hx hb dX12_busiest_36 rfl hl (by decide) rfl (fun ls hl => ?_)
        refine lv_iload hx hb dX12_busiest_37 (lv_at hl 1 rfl) ?_
        refine lv_istore_n (lv' := [(3, .int r3.1), (2, .int v4), (5, .int r3.1), (0, .ref (xq X 0)), (1, .int v1), (4, .int v4)]) hx hb dX12_busiest_39 rfl hl (by decide) rfl (fun ls hl => ?_)
        obtain ⟨x6, e7⟩ : ∃ z : Int32, z = v4 + (1 : Int32) := ⟨_, rfl⟩
        replace hf := bnd_nm hf e7
        refine lv_iinc (v := x6) (lv' := [(4, .int x6), (3, .int r3.1), (2, .int v4), (5, .int r3.1), (0, .ref (xq X 0)), (1, .int v1)]) hx hb dX12_busiest_40 hl (k := 5) rfl (by rw [e7]; rfl) (by decide) rfl (fun ls hl => ?_)
        refine lv_goto (tgt := 8) hx hb dX12_busiest_43 (by decide) ?_
        exact ih r3.2 v1 v4 r3.1 x6 _ _ _ hw (lv_sub hl [4, 5, 2, 1, 0] rfl) hf
      · replace hf := ite_f hf c5
        refine lv_goto (tgt := 40) hx hb dX12_busiest_31 (by decide) ?_
        obtain ⟨x8, e9⟩ : ∃ z : Int32, z = v4 + (1 : Int32) := ⟨_, rfl⟩
        replace hf := bnd_nm hf e9
        refine lv_iinc (v := x8) (lv' := [(4, .int x8), (5, .int r3.1), (0, .ref (xq X 0)), (1, .int v1), (2, .int v2), (3, .int v3)]) hx hb dX12_busiest_40 hl (k := 5) rfl (by rw [e9]; rfl) (by decide) rfl (fun ls hl => ?_)
        refine lv_goto (tgt := 8) hx hb dX12_busiest_43 (by decide) ?_
        exact ih r3.2 v1 v2 v3 x8 _ _ _ hw (lv_sub hl [2, 3, 4, 5, 0] rfl) hf
def fX12_busiest (n : Nat) (st : St) (a1 : Int32) : Option (Int32 × St) := fX12_busiest_8 n n st a1 (-2 : Int32) (0 : Int32) (0 : Int32)
set_option maxHeartbeats 4000000 in
theorem zX12_busiest (l : Launch) (X : WX) (n : Nat) (st : St) (a1 : Int32) (R : Int32 × St) (hf : fX12_busiest n st a1 = some R) : CtI l yX12_busiest cX12_busiest 6 .int ({ frames := 6, cells := 0, slots := 0, locals := 143 }) EM 43 X [.ref (xq X 0), .int a1] st R.1 R.2 := by
  refine ct_in (own := RX12) (by decide +kernel) rfl (Nat.le_of_ble_eq_true rfl) (fun p e s m below meth c C hr hw ls hl => ?_)
  obtain ⟨hx, hb, hml, hown, hts⟩ := id C.1
  have hl : lv_has ls 6 [(0, .ref (xq X 0)), (1, .int a1)] := hl
  unfold fX12_busiest at hf
  refine lv_bipush (v := -2) hx hb dX12_busiest_0 (by decide) ?_
  refine lv_istore_n (lv' := [(2, .int (-2 : Int32)), (0, .ref (xq X 0)), (1, .int a1)]) hx hb dX12_busiest_2 rfl hl (by decide) rfl (fun ls hl => ?_)
  refine lv_iconst (v := 0) hx hb dX12_busiest_3 (by decide) ?_
  refine lv_istore_n (lv' := [(3, .int (0 : Int32)), (2, .int (-2 : Int32)), (0, .ref (xq X 0)), (1, .int a1)]) hx hb dX12_busiest_4 rfl hl (by decide) rfl (fun ls hl => ?_)
  refine lv_iconst (v := 0) hx hb dX12_busiest_5 (by decide) ?_
  refine lv_istore (lv' := [(4, .int (0 : Int32)), (3, .int (0 : Int32)), (2, .int (-2 : Int32)), (0, .ref (xq X 0)), (1, .int a1)]) hx hb dX12_busiest_6 hl (by decide) rfl (fun ls hl => ?_)
  exact tX12_busiest_8 C hr n st a1 (-2 : Int32) (0 : Int32) (0 : Int32) _ _ _ hw (lv_sub hl [3, 4, 2, 1, 0] rfl) hf
theorem dX12_owns_0 : decode cX12_owns 0 = .ok (.iconst 0, 1) := by decide +kernel
theorem dX12_owns_1 : decode cX12_owns 1 = .ok (.istore_n 2, 1) := by decide +kernel
theorem dX12_owns_2 : decode cX12_owns 2 = .ok (.iload_n 2, 1) := by decide +kernel
theorem dX12_owns_3 : decode cX12_owns 3 = .ok (.aload_n 0, 1) := by decide +kernel
theorem dX12_owns_4 : decode cX12_owns 4 = .ok (.getfield 144, 3) := by decide +kernel
theorem dX12_owns_7 : decode cX12_owns 7 = .ok (.if_icmp .ge 21, 3) := by decide +kernel
theorem dX12_owns_10 : decode cX12_owns 10 = .ok (.aload_n 0, 1) := by decide +kernel
theorem dX12_owns_11 : decode cX12_owns 11 = .ok (.getfield 22, 3) := by decide +kernel
theorem dX12_owns_14 : decode cX12_owns 14 = .ok (.iload_n 2, 1) := by decide +kernel
theorem dX12_owns_15 : decode cX12_owns 15 = .ok (.iaload, 1) := by decide +kernel
theorem dX12_owns_16 : decode cX12_owns 16 = .ok (.iload_n 1, 1) := by decide +kernel
theorem dX12_owns_17 : decode cX12_owns 17 = .ok (.if_icmp .ne 5, 3) := by decide +kernel
theorem dX12_owns_20 : decode cX12_owns 20 = .ok (.iconst 1, 1) := by decide +kernel
theorem dX12_owns_21 : decode cX12_owns 21 = .ok (.ireturn, 1) := by decide +kernel
theorem dX12_owns_22 : decode cX12_owns 22 = .ok (.iinc 2 1, 3) := by decide +kernel
theorem dX12_owns_25 : decode cX12_owns 25 = .ok (.goto (-23), 3) := by decide +kernel
theorem dX12_owns_28 : decode cX12_owns 28 = .ok (.iconst 0, 1) := by decide +kernel
theorem dX12_owns_29 : decode cX12_owns 29 = .ok (.ireturn, 1) := by decide +kernel
theorem ok_yX12_owns : yOk yX12_owns 1 := ⟨by decide +kernel, by decide +kernel, by decide +kernel⟩
def fX12_owns_2 (n : Nat) (st : St) : Nat → Int32 → Int32 → Option (Bool)
  | 0, _, _ => none
  | k + 1, v1, v2 => if gI st 0 1 ≤ v2 then (some false) else (gd (inB v2 8) (if gI st 5 v2.toNatClampNeg = v1 then (some true) else (bnd (v2 + (1 : Int32)) (fun x4 => fX12_owns_2 n st k v1 x4))))
set_option maxHeartbeats 4000000 in
theorem tX12_owns_2 {p : Program} {l : Launch} {e : Env} {s : State} {m : MethodId} {args : Array Value} {below : List Frame} {meth : Method} {c : Code} {X : WX} (C : Amb 43 X p s m args meth c cX12_owns 3 RX12) (hr : meth.sig.returnType = some .boolean) {R : Bool} {n : Nat} {st : St} : ∀ (k : Nat) (v1 : Int32) (v2 : Int32) (H : Heap) (locs : List Loc) (ls : Array Slot), Wd EM 43 X s.heap st H locs → lv_has ls 3 [(0, .ref (xq X 0)), (1, .int v1), (2, .int v2)] → fX12_owns_2 n st k v1 v2 = some R → W p l e { frames := 0, cells := 0, slots := 0, locals := 0 } s m args below meth c H locs 0 0 (QI EM 43 X (bI R) st below args s) (F0 m 2 ls []) := by
  obtain ⟨hx, hb, hml, hown, hts⟩ := id C.1
  intro k
  induction k with
  | zero => intro v1 v2 H locs ls  hw hl hf; exact absurd (show none = some R from hf) (fun z => by cases z)
  | succ k ih =>
    intro v1 v2 H locs ls  hw hl hf
    rw [fX12_owns_2] at hf
    refine lv_iload_n hx hb dX12_owns_2 rfl (lv_at hl 2 rfl) ?_
    refine lv_aload_n hx hb dX12_owns_3 rfl (lv_at hl 0 rfl) ?_
    refine w_get (T := TX12) C hw (by decide) 1 kf_X12_144 (EM_0 X _ _) rfl inA12 (by decide) rfl dX12_owns_4 ?_
    refine lv_icmp_ge (tgt := 28) hx hb dX12_owns_7 (by decide) (fun c1 => ?_) (fun c1 => ?_)
    · replace hf := ite_t hf c1
      refine lv_iconst (v := 0) hx hb dX12_owns_28 (by decide) ?_
      exact w_zret (b := false) C hw hr rfl (Option.some.inj hf) rfl dX12_owns_29
    · replace hf := ite_f hf c1
      refine lv_aload_n hx hb dX12_owns_10 rfl (lv_at hl 0 rfl) ?_
      refine w_get (T := TX12) C hw (by decide) 6 kf_X12_22 (EM_0 X _ _) rfl inA12 (by decide) rfl dX12_owns_11 ?_
      refine lv_iload_n hx hb dX12_owns_14 rfl (lv_at hl 2 rfl) ?_
      obtain ⟨h2, hf⟩ := gd_some hf
      refine w_iald C hw (by decide) (EM_5 X _ _) h2 rfl dX12_owns_15 ?_
      refine lv_iload_n hx hb dX12_owns_16 rfl (lv_at hl 1 rfl) ?_
      refine lv_icmp_ne (tgt := 22) hx hb dX12_owns_17 (by decide) (fun c3 => ?_) (fun c3 => ?_)
      · replace hf := ite_f hf c3
        obtain ⟨x4, e5⟩ : ∃ z : Int32, z = v2 + (1 : Int32) := ⟨_, rfl⟩
        replace hf := bnd_nm hf e5
        refine lv_iinc (v := x4) (lv' := [(2, .int x4), (0, .ref (xq X 0)), (1, .int v1)]) hx hb dX12_owns_22 hl (k := 2) rfl (by rw [e5]; rfl) (by decide) rfl (fun ls hl => ?_)
        refine lv_goto (tgt := 2) hx hb dX12_owns_25 (by decide) ?_
        exact ih v1 x4 _ _ _ hw (lv_sub hl [1, 2, 0] rfl) hf
      · replace hf := ite_t hf c3
        refine lv_iconst (v := 1) hx hb dX12_owns_20 (by decide) ?_
        exact w_zret (b := true) C hw hr rfl (Option.some.inj hf) rfl dX12_owns_21
def fX12_owns (n : Nat) (st : St) (a1 : Int32) : Option (Bool) := fX12_owns_2 n st n a1 (0 : Int32)
set_option maxHeartbeats 4000000 in
theorem zX12_owns (l : Launch) (X : WX) (n : Nat) (st : St) (a1 : Int32) (R : Bool) (hf : fX12_owns n st a1 = some R) : CtI l yX12_owns cX12_owns 3 .boolean ({ frames := 0, cells := 0, slots := 0, locals := 0 }) EM 43 X [.ref (xq X 0), .int a1] st (bI R) st := by
  refine ct_in (own := RX12) (by decide +kernel) rfl (Nat.le_of_ble_eq_true rfl) (fun p e s m below meth c C hr hw ls hl => ?_)
  obtain ⟨hx, hb, hml, hown, hts⟩ := id C.1
  have hl : lv_has ls 3 [(0, .ref (xq X 0)), (1, .int a1)] := hl
  unfold fX12_owns at hf
  refine lv_iconst (v := 0) hx hb dX12_owns_0 (by decide) ?_
  refine lv_istore_n (lv' := [(2, .int (0 : Int32)), (0, .ref (xq X 0)), (1, .int a1)]) hx hb dX12_owns_1 rfl hl (by decide) rfl (fun ls hl => ?_)
  exact tX12_owns_2 C hr n a1 (0 : Int32) _ _ _ hw (lv_sub hl [1, 2, 0] rfl) hf
theorem dX12_criedAny_0 : decode cX12_criedAny 0 = .ok (.iconst 0, 1) := by decide +kernel
theorem dX12_criedAny_1 : decode cX12_criedAny 1 = .ok (.istore_n 2, 1) := by decide +kernel
theorem dX12_criedAny_2 : decode cX12_criedAny 2 = .ok (.iload_n 2, 1) := by decide +kernel
theorem dX12_criedAny_3 : decode cX12_criedAny 3 = .ok (.aload_n 0, 1) := by decide +kernel
theorem dX12_criedAny_4 : decode cX12_criedAny 4 = .ok (.getfield 154, 3) := by decide +kernel
theorem dX12_criedAny_7 : decode cX12_criedAny 7 = .ok (.if_icmp .ge 21, 3) := by decide +kernel
theorem dX12_criedAny_10 : decode cX12_criedAny 10 = .ok (.aload_n 0, 1) := by decide +kernel
theorem dX12_criedAny_11 : decode cX12_criedAny 11 = .ok (.getfield 40, 3) := by decide +kernel
theorem dX12_criedAny_14 : decode cX12_criedAny 14 = .ok (.iload_n 2, 1) := by decide +kernel
theorem dX12_criedAny_15 : decode cX12_criedAny 15 = .ok (.iaload, 1) := by decide +kernel
theorem dX12_criedAny_16 : decode cX12_criedAny 16 = .ok (.iload_n 1, 1) := by decide +kernel
theorem dX12_criedAny_17 : decode cX12_criedAny 17 = .ok (.if_icmp .ne 5, 3) := by decide +kernel
theorem dX12_criedAny_20 : decode cX12_criedAny 20 = .ok (.iconst 1, 1) := by decide +kernel
theorem dX12_criedAny_21 : decode cX12_criedAny 21 = .ok (.ireturn, 1) := by decide +kernel
theorem dX12_criedAny_22 : decode cX12_criedAny 22 = .ok (.iinc 2 1, 3) := by decide +kernel
theorem dX12_criedAny_25 : decode cX12_criedAny 25 = .ok (.goto (-23), 3) := by decide +kernel
theorem dX12_criedAny_28 : decode cX12_criedAny 28 = .ok (.iconst 0, 1) := by decide +kernel
theorem dX12_criedAny_29 : decode cX12_criedAny 29 = .ok (.ireturn, 1) := by decide +kernel
theorem ok_yX12_criedAny : yOk yX12_criedAny 1 := ⟨by decide +kernel, by decide +kernel, by decide +kernel⟩
def fX12_criedAny_2 (n : Nat) (st : St) : Nat → Int32 → Int32 → Option (Bool)
  | 0, _, _ => none
  | k + 1, v1, v2 => if gI st 0 13 ≤ v2 then (some false) else (gd (inB v2 13) (if gI st 11 v2.toNatClampNeg = v1 then (some true) else (bnd (v2 + (1 : Int32)) (fun x4 => fX12_criedAny_2 n st k v1 x4))))
set_option maxHeartbeats 4000000 in
theorem tX12_criedAny_2 {p : Program} {l : Launch} {e : Env} {s : State} {m : MethodId} {args : Array Value} {below : List Frame} {meth : Method} {c : Code} {X : WX} (C : Amb 43 X p s m args meth c cX12_criedAny 3 RX12) (hr : meth.sig.returnType = some .boolean) {R : Bool} {n : Nat} {st : St} : ∀ (k : Nat) (v1 : Int32) (v2 : Int32) (H : Heap) (locs : List Loc) (ls : Array Slot), Wd EM 43 X s.heap st H locs → lv_has ls 3 [(0, .ref (xq X 0)), (1, .int v1), (2, .int v2)] → fX12_criedAny_2 n st k v1 v2 = some R → W p l e { frames := 0, cells := 0, slots := 0, locals := 0 } s m args below meth c H locs 0 0 (QI EM 43 X (bI R) st below args s) (F0 m 2 ls []) := by
  obtain ⟨hx, hb, hml, hown, hts⟩ := id C.1
  intro k
  induction k with
  | zero => intro v1 v2 H locs ls  hw hl hf; exact absurd (show none = some R from hf) (fun z => by cases z)
  | succ k ih =>
    intro v1 v2 H locs ls  hw hl hf
    rw [fX12_criedAny_2] at hf
    refine lv_iload_n hx hb dX12_criedAny_2 rfl (lv_at hl 2 rfl) ?_
    refine lv_aload_n hx hb dX12_criedAny_3 rfl (lv_at hl 0 rfl) ?_
    refine w_get (T := TX12) C hw (by decide) 13 kf_X12_154 (EM_0 X _ _) rfl inA12 (by decide) rfl dX12_criedAny_4 ?_
    refine lv_icmp_ge (tgt := 28) hx hb dX12_criedAny_7 (by decide) (fun c1 => ?_) (fun c1 => ?_)
    · replace hf := ite_t hf c1
      refine lv_iconst (v := 0) hx hb dX12_criedAny_28 (by decide) ?_
      exact w_zret (b := false) C hw hr rfl (Option.some.inj hf) rfl dX12_criedAny_29
    · replace hf := ite_f hf c1
      refine lv_aload_n hx hb dX12_criedAny_10 rfl (lv_at hl 0 rfl) ?_
      refine w_get (T := TX12) C hw (by decide) 14 kf_X12_40 (EM_0 X _ _) rfl inA12 (by decide) rfl dX12_criedAny_11 ?_
      refine lv_iload_n hx hb dX12_criedAny_14 rfl (lv_at hl 2 rfl) ?_
      obtain ⟨h2, hf⟩ := gd_some hf
      refine w_iald C hw (by decide) (EM_11 X _ _) h2 rfl dX12_criedAny_15 ?_
      refine lv_iload_n hx hb dX12_criedAny_16 rfl (lv_at hl 1 rfl) ?_
      refine lv_icmp_ne (tgt := 22) hx hb dX12_criedAny_17 (by decide) (fun c3 => ?_) (fun c3 => ?_)
      · replace hf := ite_f hf c3
        obtain ⟨x4, e5⟩ : ∃ z : Int32, z = v2 + (1 : Int32) := ⟨_, rfl⟩
        replace hf := bnd_nm hf e5
        refine lv_iinc (v := x4) (lv' := [(2, .int x4), (0, .ref (xq X 0)), (1, .int v1)]) hx hb dX12_criedAny_22 hl (k := 2) rfl (by rw [e5]; rfl) (by decide) rfl (fun ls hl => ?_)
        refine lv_goto (tgt := 2) hx hb dX12_criedAny_25 (by decide) ?_
        exact ih v1 x4 _ _ _ hw (lv_sub hl [1, 2, 0] rfl) hf
      · replace hf := ite_t hf c3
        refine lv_iconst (v := 1) hx hb dX12_criedAny_20 (by decide) ?_
        exact w_zret (b := true) C hw hr rfl (Option.some.inj hf) rfl dX12_criedAny_21
def fX12_criedAny (n : Nat) (st : St) (a1 : Int32) : Option (Bool) := fX12_criedAny_2 n st n a1 (0 : Int32)
set_option maxHeartbeats 4000000 in
theorem zX12_criedAny (l : Launch) (X : WX) (n : Nat) (st : St) (a1 : Int32) (R : Bool) (hf : fX12_criedAny n st a1 = some R) : CtI l yX12_criedAny cX12_criedAny 3 .boolean ({ frames := 0, cells := 0, slots := 0, locals := 0 }) EM 43 X [.ref (xq X 0), .int a1] st (bI R) st := by
  refine ct_in (own := RX12) (by decide +kernel) rfl (Nat.le_of_ble_eq_true rfl) (fun p e s m below meth c C hr hw ls hl => ?_)
  obtain ⟨hx, hb, hml, hown, hts⟩ := id C.1
  have hl : lv_has ls 3 [(0, .ref (xq X 0)), (1, .int a1)] := hl
  unfold fX12_criedAny at hf
  refine lv_iconst (v := 0) hx hb dX12_criedAny_0 (by decide) ?_
  refine lv_istore_n (lv' := [(2, .int (0 : Int32)), (0, .ref (xq X 0)), (1, .int a1)]) hx hb dX12_criedAny_1 rfl hl (by decide) rfl (fun ls hl => ?_)
  exact tX12_criedAny_2 C hr n a1 (0 : Int32) _ _ _ hw (lv_sub hl [1, 2, 0] rfl) hf
theorem dX12_skeptic_0 : decode cX12_skeptic 0 = .ok (.aload_n 0, 1) := by decide +kernel
theorem dX12_skeptic_1 : decode cX12_skeptic 1 = .ok (.invokevirtual 315, 3) := by decide +kernel
theorem dX12_skeptic_4 : decode cX12_skeptic 4 = .ok (.iconst 0, 1) := by decide +kernel
theorem dX12_skeptic_5 : decode cX12_skeptic 5 = .ok (.istore_n 1, 1) := by decide +kernel
theorem dX12_skeptic_6 : decode cX12_skeptic 6 = .ok (.iload_n 1, 1) := by decide +kernel
theorem dX12_skeptic_7 : decode cX12_skeptic 7 = .ok (.bipush 6, 2) := by decide +kernel
theorem dX12_skeptic_9 : decode cX12_skeptic 9 = .ok (.if_icmp .ge 35, 3) := by decide +kernel
theorem dX12_skeptic_12 : decode cX12_skeptic 12 = .ok (.aload_n 0, 1) := by decide +kernel
theorem dX12_skeptic_13 : decode cX12_skeptic 13 = .ok (.iload_n 1, 1) := by decide +kernel
theorem dX12_skeptic_14 : decode cX12_skeptic 14 = .ok (.invokevirtual 333, 3) := by decide +kernel
theorem dX12_skeptic_17 : decode cX12_skeptic 17 = .ok (.ifCond .eq 21, 3) := by decide +kernel
theorem dX12_skeptic_20 : decode cX12_skeptic 20 = .ok (.aload_n 0, 1) := by decide +kernel
theorem dX12_skeptic_21 : decode cX12_skeptic 21 = .ok (.iload_n 1, 1) := by decide +kernel
theorem dX12_skeptic_22 : decode cX12_skeptic 22 = .ok (.invokevirtual 336, 3) := by decide +kernel
theorem dX12_skeptic_25 : decode cX12_skeptic 25 = .ok (.ifCond .ne 13, 3) := by decide +kernel
theorem dX12_skeptic_28 : decode cX12_skeptic 28 = .ok (.aload_n 0, 1) := by decide +kernel
theorem dX12_skeptic_29 : decode cX12_skeptic 29 = .ok (.iload_n 1, 1) := by decide +kernel
theorem dX12_skeptic_30 : decode cX12_skeptic 30 = .ok (.invokevirtual 321, 3) := by decide +kernel
theorem dX12_skeptic_33 : decode cX12_skeptic 33 = .ok (.ifCond .le 5, 3) := by decide +kernel
theorem dX12_skeptic_36 : decode cX12_skeptic 36 = .ok (.iload_n 1, 1) := by decide +kernel
theorem dX12_skeptic_37 : decode cX12_skeptic 37 = .ok (.ireturn, 1) := by decide +kernel
theorem dX12_skeptic_38 : decode cX12_skeptic 38 = .ok (.iinc 1 1, 3) := by decide +kernel
theorem dX12_skeptic_41 : decode cX12_skeptic 41 = .ok (.goto (-35), 3) := by decide +kernel
theorem dX12_skeptic_44 : decode cX12_skeptic 44 = .ok (.bipush (-2), 2) := by decide +kernel
theorem dX12_skeptic_46 : decode cX12_skeptic 46 = .ok (.ireturn, 1) := by decide +kernel
theorem ok_yX12_skeptic : yOk yX12_skeptic 0 := ⟨by decide +kernel, by decide +kernel, by decide +kernel⟩
def fX12_skeptic_6 (n : Nat) : Nat → St → Int32 → Option (Int32 × St)
  | 0, _, _ => none
  | k + 1, st, v1 => if (6 : Int32) ≤ v1 then (some ((-2 : Int32), st)) else ((fX12_owns n st v1).bind (fun r4 => if bI r4 = 0 then (bnd (v1 + (1 : Int32)) (fun x7 => fX12_skeptic_6 n k st x7)) else ((fX12_criedAny n st v1).bind (fun r9 => if bI r9 = 0 then ((fX12_owesAll n st v1).bind (fun r14 => if r14 ≤ 0 then (bnd (v1 + (1 : Int32)) (fun x17 => fX12_skeptic_6 n k st x17)) else (some (v1, st)))) else (bnd (v1 + (1 : Int32)) (fun x12 => fX12_skeptic_6 n k st x12))))))
set_option maxHeartbeats 4000000 in
theorem tX12_skeptic_6 {p : Program} {l : Launch} {e : Env} {s : State} {m : MethodId} {args : Array Value} {below : List Frame} {meth : Method} {c : Code} {X : WX} (C : Amb 43 X p s m args meth c cX12_skeptic 2 RX12) (hr : meth.sig.returnType = some .int) {R : Int32 × St} {n : Nat} : ∀ (k : Nat) (st : St) (v1 : Int32) (H : Heap) (locs : List Loc) (ls : Array Slot), Wd EM 43 X s.heap st H locs → lv_has ls 2 [(0, .ref (xq X 0)), (1, .int v1)] → fX12_skeptic_6 n k st v1 = some R → W p l e { frames := 7, cells := 0, slots := 0, locals := 167 } s m args below meth c H locs 0 0 (QI EM 43 X R.1 R.2 below args s) (F0 m 6 ls []) := by
  obtain ⟨hx, hb, hml, hown, hts⟩ := id C.1
  intro k
  induction k with
  | zero => intro st v1 H locs ls  hw hl hf; exact absurd (show none = some R from hf) (fun z => by cases z)
  | succ k ih =>
    intro st v1 H locs ls  hw hl hf
    rw [fX12_skeptic_6] at hf
    refine lv_iload_n hx hb dX12_skeptic_6 rfl (lv_at hl 1 rfl) ?_
    refine lv_bipush (v := 6) hx hb dX12_skeptic_7 (by decide) ?_
    refine lv_icmp_ge (tgt := 44) hx hb dX12_skeptic_9 (by decide) (fun c3 => ?_) (fun c3 => ?_)
    · replace hf := ite_t hf c3
      refine lv_bipush (v := -2) hx hb dX12_skeptic_44 (by decide) ?_
      exact w_iret C hw hr (so2 hf).1 (so2 hf).2 dX12_skeptic_46
    · replace hf := ite_f hf c3
      refine lv_aload_n hx hb dX12_skeptic_12 rfl (lv_at hl 0 rfl) ?_
      refine lv_iload_n hx hb dX12_skeptic_13 rfl (lv_at hl 1 rfl) ?_
      obtain ⟨r4, k5, hf⟩ := bd_some hf
      refine w_goI hw (w_runV (rest := []) C hw (zX12_owns _ _ n st v1 r4 k5) (by decide) (EM_0 X _ _) rfl km_X12_333 ki_yX12_owns kv_X12_owns kz_X12 kc_X12_owns rfl ok_yX12_owns ⟨Nat.le_of_ble_eq_true rfl, Nat.le_of_ble_eq_true rfl⟩ rfl rfl rfl rfl hl.1 (Nat.le_of_ble_eq_true rfl) dX12_skeptic_14 ⟨Nat.zero_le _, Nat.zero_le _⟩) (fun H locs hw => ?_)
      refine lv_if_eq (tgt := 38) hx hb dX12_skeptic_17 (by decide) (fun c6 => ?_) (fun c6 => ?_)
      · replace hf := ite_t hf c6
        obtain ⟨x7, e8⟩ : ∃ z : Int32, z = v1 + (1 : Int32) := ⟨_, rfl⟩
        replace hf := bnd_nm hf e8
        refine lv_iinc (v := x7) (lv' := [(1, .int x7), (0, .ref (xq X 0))]) hx hb dX12_skeptic_38 hl (k := 1) rfl (by rw [e8]; rfl) (by decide) rfl (fun ls hl => ?_)
        refine lv_goto (tgt := 6) hx hb dX12_skeptic_41 (by decide) ?_
        exact ih st x7 _ _ _ hw (lv_sub hl [1, 0] rfl) hf
      · replace hf := ite_f hf c6
        refine lv_aload_n hx hb dX12_skeptic_20 rfl (lv_at hl 0 rfl) ?_
        refine lv_iload_n hx hb dX12_skeptic_21 rfl (lv_at hl 1 rfl) ?_
        obtain ⟨r9, k10, hf⟩ := bd_some hf
        refine w_goI hw (w_runV (rest := []) C hw (zX12_criedAny _ _ n st v1 r9 k10) (by decide) (EM_0 X _ _) rfl km_X12_336 ki_yX12_criedAny kv_X12_criedAny kz_X12 kc_X12_criedAny rfl ok_yX12_criedAny ⟨Nat.le_of_ble_eq_true rfl, Nat.le_of_ble_eq_true rfl⟩ rfl rfl rfl rfl hl.1 (Nat.le_of_ble_eq_true rfl) dX12_skeptic_22 ⟨Nat.zero_le _, Nat.zero_le _⟩) (fun H locs hw => ?_)
        refine lv_if_ne (tgt := 38) hx hb dX12_skeptic_25 (by decide) (fun c11 => ?_) (fun c11 => ?_)
        · replace hf := ite_f hf c11
          obtain ⟨x12, e13⟩ : ∃ z : Int32, z = v1 + (1 : Int32) := ⟨_, rfl⟩
          replace hf := bnd_nm hf e13
          refine lv_iinc (v := x12) (lv' := [(1, .int x12), (0, .ref (xq X 0))]) hx hb dX12_skeptic_38 hl (k := 1) rfl (by rw [e13]; rfl) (by decide) rfl (fun ls hl => ?_)
          refine lv_goto (tgt := 6) hx hb dX12_skeptic_41 (by decide) ?_
          exact ih st x12 _ _ _ hw (lv_sub hl [1, 0] rfl) hf
        · replace hf := ite_t hf c11
          refine lv_aload_n hx hb dX12_skeptic_28 rfl (lv_at hl 0 rfl) ?_
          refine lv_iload_n hx hb dX12_skeptic_29 rfl (lv_at hl 1 rfl) ?_
          obtain ⟨r14, k15, hf⟩ := bd_some hf
          refine w_goI hw (w_runV (rest := []) C hw (zX12_owesAll _ _ n st v1 r14 k15) (by decide) (EM_0 X _ _) rfl km_X12_321 ki_yX12_owesAll kv_X12_owesAll kz_X12 kc_X12_owesAll rfl ok_yX12_owesAll ⟨Nat.le_of_ble_eq_true rfl, Nat.le_of_ble_eq_true rfl⟩ rfl rfl rfl rfl hl.1 (Nat.le_of_ble_eq_true rfl) dX12_skeptic_30 ⟨Nat.zero_le _, Nat.zero_le _⟩) (fun H locs hw => ?_)
          refine lv_if_le (tgt := 38) hx hb dX12_skeptic_33 (by decide) (fun c16 => ?_) (fun c16 => ?_)
          · replace hf := ite_t hf c16
            obtain ⟨x17, e18⟩ : ∃ z : Int32, z = v1 + (1 : Int32) := ⟨_, rfl⟩
            replace hf := bnd_nm hf e18
            refine lv_iinc (v := x17) (lv' := [(1, .int x17), (0, .ref (xq X 0))]) hx hb dX12_skeptic_38 hl (k := 1) rfl (by rw [e18]; rfl) (by decide) rfl (fun ls hl => ?_)
            refine lv_goto (tgt := 6) hx hb dX12_skeptic_41 (by decide) ?_
            exact ih st x17 _ _ _ hw (lv_sub hl [1, 0] rfl) hf
          · replace hf := ite_f hf c16
            refine lv_iload_n hx hb dX12_skeptic_36 rfl (lv_at hl 1 rfl) ?_
            exact w_iret C hw hr (so2 hf).1 (so2 hf).2 dX12_skeptic_37
def fX12_skeptic (n : Nat) (st : St) : Option (Int32 × St) := (fX12_findOwed n st).bind (fun r1 => fX12_skeptic_6 n n r1 (0 : Int32))
set_option maxHeartbeats 4000000 in
theorem zX12_skeptic (l : Launch) (X : WX) (n : Nat) (st : St)  (R : Int32 × St) (hf : fX12_skeptic n st = some R) : CtI l yX12_skeptic cX12_skeptic 2 .int ({ frames := 7, cells := 0, slots := 0, locals := 167 }) EM 43 X [.ref (xq X 0)] st R.1 R.2 := by
  refine ct_in (own := RX12) (by decide +kernel) rfl (Nat.le_of_ble_eq_true rfl) (fun p e s m below meth c C hr hw ls hl => ?_)
  obtain ⟨hx, hb, hml, hown, hts⟩ := id C.1
  have hl : lv_has ls 2 [(0, .ref (xq X 0))] := hl
  unfold fX12_skeptic at hf
  refine lv_aload_n hx hb dX12_skeptic_0 rfl (lv_at hl 0 rfl) ?_
  obtain ⟨r1, k2, hf⟩ := bd_some hf
  refine w_goV hw (w_runV (rest := []) C hw (zX12_findOwed _ _ n st r1 k2) (by decide) (EM_0 X _ _) rfl km_X12_315 ki_yX12_findOwed kv_X12_findOwed kz_X12 kc_X12_findOwed rfl ok_yX12_findOwed ⟨Nat.le_of_ble_eq_true rfl, Nat.le_of_ble_eq_true rfl⟩ rfl rfl rfl rfl hl.1 (Nat.le_of_ble_eq_true rfl) dX12_skeptic_1 ⟨Nat.zero_le _, Nat.zero_le _⟩) (fun H locs hw => ?_)
  refine lv_iconst (v := 0) hx hb dX12_skeptic_4 (by decide) ?_
  refine lv_istore_n (lv' := [(1, .int (0 : Int32)), (0, .ref (xq X 0))]) hx hb dX12_skeptic_5 rfl hl (by decide) rfl (fun ls hl => ?_)
  exact tX12_skeptic_6 C hr n r1 (0 : Int32) _ _ _ hw (lv_sub hl [1, 0] rfl) hf
theorem dX12_who_0 : decode cX12_who 0 = .ok (.iload_n 1, 1) := by decide +kernel
theorem dX12_who_1 : decode cX12_who 1 = .ok (.tableswitch 94 0 4 #[35, 40, 46, 52, 57], 35) := by decide +kernel
theorem dX12_who_36 : decode cX12_who 36 = .ok (.aload_n 0, 1) := by decide +kernel
theorem dX12_who_37 : decode cX12_who 37 = .ok (.invokevirtual 339, 3) := by decide +kernel
theorem dX12_who_40 : decode cX12_who 40 = .ok (.ireturn, 1) := by decide +kernel
theorem dX12_who_41 : decode cX12_who 41 = .ok (.aload_n 0, 1) := by decide +kernel
theorem dX12_who_42 : decode cX12_who 42 = .ok (.iconst 0, 1) := by decide +kernel
theorem dX12_who_43 : decode cX12_who 43 = .ok (.invokevirtual 342, 3) := by decide +kernel
theorem dX12_who_46 : decode cX12_who 46 = .ok (.ireturn, 1) := by decide +kernel
theorem dX12_who_47 : decode cX12_who 47 = .ok (.aload_n 0, 1) := by decide +kernel
theorem dX12_who_48 : decode cX12_who 48 = .ok (.iconst 1, 1) := by decide +kernel
theorem dX12_who_49 : decode cX12_who 49 = .ok (.invokevirtual 342, 3) := by decide +kernel
theorem dX12_who_52 : decode cX12_who 52 = .ok (.ireturn, 1) := by decide +kernel
theorem dX12_who_53 : decode cX12_who 53 = .ok (.aload_n 0, 1) := by decide +kernel
theorem dX12_who_54 : decode cX12_who 54 = .ok (.invokevirtual 346, 3) := by decide +kernel
theorem dX12_who_57 : decode cX12_who 57 = .ok (.ireturn, 1) := by decide +kernel
theorem dX12_who_58 : decode cX12_who 58 = .ok (.iconst 1, 1) := by decide +kernel
theorem dX12_who_59 : decode cX12_who 59 = .ok (.aload_n 0, 1) := by decide +kernel
theorem dX12_who_60 : decode cX12_who 60 = .ok (.getfield 154, 3) := by decide +kernel
theorem dX12_who_63 : decode cX12_who 63 = .ok (.ishl, 1) := by decide +kernel
theorem dX12_who_64 : decode cX12_who 64 = .ok (.iconst 1, 1) := by decide +kernel
theorem dX12_who_65 : decode cX12_who 65 = .ok (.isub, 1) := by decide +kernel
theorem dX12_who_66 : decode cX12_who 66 = .ok (.istore_n 2, 1) := by decide +kernel
theorem dX12_who_67 : decode cX12_who 67 = .ok (.iconst 0, 1) := by decide +kernel
theorem dX12_who_68 : decode cX12_who 68 = .ok (.istore_n 3, 1) := by decide +kernel
theorem dX12_who_69 : decode cX12_who 69 = .ok (.iload_n 3, 1) := by decide +kernel
theorem dX12_who_70 : decode cX12_who 70 = .ok (.aload_n 0, 1) := by decide +kernel
theorem dX12_who_71 : decode cX12_who 71 = .ok (.getfield 151, 3) := by decide +kernel
theorem dX12_who_74 : decode cX12_who 74 = .ok (.if_icmp .ge 19, 3) := by decide +kernel
theorem dX12_who_77 : decode cX12_who 77 = .ok (.iload_n 2, 1) := by decide +kernel
theorem dX12_who_78 : decode cX12_who 78 = .ok (.aload_n 0, 1) := by decide +kernel
theorem dX12_who_79 : decode cX12_who 79 = .ok (.iload_n 3, 1) := by decide +kernel
theorem dX12_who_80 : decode cX12_who 80 = .ok (.invokevirtual 303, 3) := by decide +kernel
theorem dX12_who_83 : decode cX12_who 83 = .ok (.iconst (-1), 1) := by decide +kernel
theorem dX12_who_84 : decode cX12_who 84 = .ok (.ixor, 1) := by decide +kernel
theorem dX12_who_85 : decode cX12_who 85 = .ok (.iand, 1) := by decide +kernel
theorem dX12_who_86 : decode cX12_who 86 = .ok (.istore_n 2, 1) := by decide +kernel
theorem dX12_who_87 : decode cX12_who 87 = .ok (.iinc 3 1, 3) := by decide +kernel
theorem dX12_who_90 : decode cX12_who 90 = .ok (.goto (-21), 3) := by decide +kernel
theorem dX12_who_93 : decode cX12_who 93 = .ok (.iload_n 2, 1) := by decide +kernel
theorem dX12_who_94 : decode cX12_who 94 = .ok (.ireturn, 1) := by decide +kernel
theorem dX12_who_95 : decode cX12_who 95 = .ok (.iconst (-1), 1) := by decide +kernel
theorem dX12_who_96 : decode cX12_who 96 = .ok (.ireturn, 1) := by decide +kernel
theorem ok_yX12_who : yOk yX12_who 1 := ⟨by decide +kernel, by decide +kernel, by decide +kernel⟩
def fX12_who_69 (n : Nat) : Nat → St → Int32 → Int32 → Option (Int32 × St)
  | 0, _, _, _ => none
  | k + 1, st, v2, v3 => if gI st 0 8 ≤ v3 then (some (v2, st)) else ((fX12_haveIt n st v3).bind (fun r17 => bnd (v2 &&& (r17.1 ^^^ (-1 : Int32))) (fun x19 => bnd (v3 + (1 : Int32)) (fun x21 => fX12_who_69 n k r17.2 x19 x21))))
set_option maxHeartbeats 4000000 in
theorem tX12_who_69 {p : Program} {l : Launch} {e : Env} {s : State} {m : MethodId} {args : Array Value} {below : List Frame} {meth : Method} {c : Code} {X : WX} (C : Amb 43 X p s m args meth c cX12_who 4 RX12) (hr : meth.sig.returnType = some .int) {R : Int32 × St} {n : Nat} : ∀ (k : Nat) (st : St) (v2 : Int32) (v3 : Int32) (H : Heap) (locs : List Loc) (ls : Array Slot), Wd EM 43 X s.heap st H locs → lv_has ls 4 [(0, .ref (xq X 0)), (2, .int v2), (3, .int v3)] → fX12_who_69 n k st v2 v3 = some R → W p l e { frames := 8, cells := 0, slots := 0, locals := 188 } s m args below meth c H locs 0 0 (QI EM 43 X R.1 R.2 below args s) (F0 m 69 ls []) := by
  obtain ⟨hx, hb, hml, hown, hts⟩ := id C.1
  intro k
  induction k with
  | zero => intro st v2 v3 H locs ls  hw hl hf; exact absurd (show none = some R from hf) (fun z => by cases z)
  | succ k ih =>
    intro st v2 v3 H locs ls  hw hl hf
    rw [fX12_who_69] at hf
    refine lv_iload_n hx hb dX12_who_69 rfl (lv_at hl 2 rfl) ?_
    refine lv_aload_n hx hb dX12_who_70 rfl (lv_at hl 0 rfl) ?_
    refine w_get (T := TX12) C hw (by decide) 8 kf_X12_151 (EM_0 X _ _) rfl inA12 (by decide) rfl dX12_who_71 ?_
    refine lv_icmp_ge (tgt := 93) hx hb dX12_who_74 (by decide) (fun c16 => ?_) (fun c16 => ?_)
    · replace hf := ite_t hf c16
      refine lv_iload_n hx hb dX12_who_93 rfl (lv_at hl 1 rfl) ?_
      exact w_iret C hw hr (so2 hf).1 (so2 hf).2 dX12_who_94
    · replace hf := ite_f hf c16
      refine lv_iload_n hx hb dX12_who_77 rfl (lv_at hl 1 rfl) ?_
      refine lv_aload_n hx hb dX12_who_78 rfl (lv_at hl 0 rfl) ?_
      refine lv_iload_n hx hb dX12_who_79 rfl (lv_at hl 2 rfl) ?_
      obtain ⟨r17, k18, hf⟩ := bd_some hf
      refine w_goI hw (w_runV (rest := [.int v2]) C hw (zX12_haveIt _ _ n st v3 r17 k18) (by decide) (EM_0 X _ _) rfl km_X12_303 ki_yX12_haveIt kv_X12_haveIt kz_X12 kc_X12_haveIt rfl ok_yX12_haveIt ⟨Nat.le_of_ble_eq_true rfl, Nat.le_of_ble_eq_true rfl⟩ rfl rfl rfl rfl hl.1 (Nat.le_of_ble_eq_true rfl) dX12_who_80 ⟨Nat.zero_le _, Nat.zero_le _⟩) (fun H locs hw => ?_)
      refine lv_iconst (v := -1) hx hb dX12_who_83 (by decide) ?_
      refine lv_ixor hx hb dX12_who_84 ?_
      refine lv_iand hx hb dX12_who_85 ?_
      refine lv_topi (fun x19 e20 => ?_)
      replace hf := bnd_nm hf e20
      refine lv_istore_n (lv' := [(2, .int x19), (0, .ref (xq X 0)), (3, .int v3)]) hx hb dX12_who_86 rfl hl (by decide) rfl (fun ls hl => ?_)
      obtain ⟨x21, e22⟩ : ∃ z : Int32, z = v3 + (1 : Int32) := ⟨_, rfl⟩
      replace hf := bnd_nm hf e22
      refine lv_iinc (v := x21) (lv' := [(3, .int x21), (2, .int x19), (0, .ref (xq X 0))]) hx hb dX12_who_87 hl (k := 2) rfl (by rw [e22]; rfl) (by decide) rfl (fun ls hl => ?_)
      refine lv_goto (tgt := 69) hx hb dX12_who_90 (by decide) ?_
      exact ih r17.2 x19 x21 _ _ _ hw (lv_sub hl [2, 1, 0] rfl) hf
def fX12_who (n : Nat) (st : St) (a1 : Int32) : Option (Int32 × St) := if a1 = 0 then ((fX12_quarrel n st).bind (fun r2 => some (r2.1, r2.2))) else (if a1 = 1 then ((fX12_busiest n st (0 : Int32)).bind (fun r5 => some (r5.1, r5.2))) else (if a1 = 2 then ((fX12_busiest n st (1 : Int32)).bind (fun r8 => some (r8.1, r8.2))) else (if a1 = 3 then ((fX12_skeptic n st).bind (fun r11 => some (r11.1, r11.2))) else (if a1 = 4 then (bnd (((1 : Int32) <<< ((gI st 0 13) &&& 31)) - (1 : Int32)) (fun x14 => fX12_who_69 n n st x14 (0 : Int32))) else (some ((-1 : Int32), st))))))
set_option maxHeartbeats 4000000 in
theorem zX12_who (l : Launch) (X : WX) (n : Nat) (st : St) (a1 : Int32) (R : Int32 × St) (hf : fX12_who n st a1 = some R) : CtI l yX12_who cX12_who 4 .int ({ frames := 8, cells := 0, slots := 0, locals := 188 }) EM 43 X [.ref (xq X 0), .int a1] st R.1 R.2 := by
  refine ct_in (own := RX12) (by decide +kernel) rfl (Nat.le_of_ble_eq_true rfl) (fun p e s m below meth c C hr hw ls hl => ?_)
  obtain ⟨hx, hb, hml, hown, hts⟩ := id C.1
  have hl : lv_has ls 4 [(0, .ref (xq X 0)), (1, .int a1)] := hl
  unfold fX12_who at hf
  refine lv_iload_n hx hb dX12_who_0 rfl (lv_at hl 1 rfl) ?_
  by_cases c1 : a1 = 0
  · replace hf := ite_t hf c1
    refine lv_tableIn (tgt := 36) hx hb dX12_who_1 (by rw [c1]; decide) (by rw [c1]; decide) (by rw [c1]; rfl) (by decide) ?_
    refine lv_aload_n hx hb dX12_who_36 rfl (lv_at hl 0 rfl) ?_
    obtain ⟨r2, k3, hf⟩ := bd_some hf
    refine w_goI hw (w_runV (rest := []) C hw (zX12_quarrel _ _ n st r2 k3) (by decide) (EM_0 X _ _) rfl km_X12_339 ki_yX12_quarrel kv_X12_quarrel kz_X12 kc_X12_quarrel rfl ok_yX12_quarrel ⟨Nat.le_of_ble_eq_true rfl, Nat.le_of_ble_eq_true rfl⟩ rfl rfl rfl rfl hl.1 (Nat.le_of_ble_eq_true rfl) dX12_who_37 ⟨Nat.zero_le _, Nat.zero_le _⟩) (fun H locs hw => ?_)
    exact w_iret C hw hr (so2 hf).1 (so2 hf).2 dX12_who_40
  · replace hf := ite_f hf c1
    by_cases c4 : a1 = 1
    · replace hf := ite_t hf c4
      refine lv_tableIn (tgt := 41) hx hb dX12_who_1 (by rw [c4]; decide) (by rw [c4]; decide) (by rw [c4]; rfl) (by decide) ?_
      refine lv_aload_n hx hb dX12_who_41 rfl (lv_at hl 0 rfl) ?_
      refine lv_iconst (v := 0) hx hb dX12_who_42 (by decide) ?_
      obtain ⟨r5, k6, hf⟩ := bd_some hf
      refine w_goI hw (w_runV (rest := []) C hw (zX12_busiest _ _ n st (0 : Int32) r5 k6) (by decide) (EM_0 X _ _) rfl km_X12_342 ki_yX12_busiest kv_X12_busiest kz_X12 kc_X12_busiest rfl ok_yX12_busiest ⟨Nat.le_of_ble_eq_true rfl, Nat.le_of_ble_eq_true rfl⟩ rfl rfl rfl rfl hl.1 (Nat.le_of_ble_eq_true rfl) dX12_who_43 ⟨Nat.zero_le _, Nat.zero_le _⟩) (fun H locs hw => ?_)
      exact w_iret C hw hr (so2 hf).1 (so2 hf).2 dX12_who_46
    · replace hf := ite_f hf c4
      by_cases c7 : a1 = 2
      · replace hf := ite_t hf c7
        refine lv_tableIn (tgt := 47) hx hb dX12_who_1 (by rw [c7]; decide) (by rw [c7]; decide) (by rw [c7]; rfl) (by decide) ?_
        refine lv_aload_n hx hb dX12_who_47 rfl (lv_at hl 0 rfl) ?_
        refine lv_iconst (v := 1) hx hb dX12_who_48 (by decide) ?_
        obtain ⟨r8, k9, hf⟩ := bd_some hf
        refine w_goI hw (w_runV (rest := []) C hw (zX12_busiest _ _ n st (1 : Int32) r8 k9) (by decide) (EM_0 X _ _) rfl km_X12_342 ki_yX12_busiest kv_X12_busiest kz_X12 kc_X12_busiest rfl ok_yX12_busiest ⟨Nat.le_of_ble_eq_true rfl, Nat.le_of_ble_eq_true rfl⟩ rfl rfl rfl rfl hl.1 (Nat.le_of_ble_eq_true rfl) dX12_who_49 ⟨Nat.zero_le _, Nat.zero_le _⟩) (fun H locs hw => ?_)
        exact w_iret C hw hr (so2 hf).1 (so2 hf).2 dX12_who_52
      · replace hf := ite_f hf c7
        by_cases c10 : a1 = 3
        · replace hf := ite_t hf c10
          refine lv_tableIn (tgt := 53) hx hb dX12_who_1 (by rw [c10]; decide) (by rw [c10]; decide) (by rw [c10]; rfl) (by decide) ?_
          refine lv_aload_n hx hb dX12_who_53 rfl (lv_at hl 0 rfl) ?_
          obtain ⟨r11, k12, hf⟩ := bd_some hf
          refine w_goI hw (w_runV (rest := []) C hw (zX12_skeptic _ _ n st r11 k12) (by decide) (EM_0 X _ _) rfl km_X12_346 ki_yX12_skeptic kv_X12_skeptic kz_X12 kc_X12_skeptic rfl ok_yX12_skeptic ⟨Nat.le_of_ble_eq_true rfl, Nat.le_of_ble_eq_true rfl⟩ rfl rfl rfl rfl hl.1 (Nat.le_of_ble_eq_true rfl) dX12_who_54 ⟨Nat.zero_le _, Nat.zero_le _⟩) (fun H locs hw => ?_)
          exact w_iret C hw hr (so2 hf).1 (so2 hf).2 dX12_who_57
        · replace hf := ite_f hf c10
          by_cases c13 : a1 = 4
          · replace hf := ite_t hf c13
            refine lv_tableIn (tgt := 58) hx hb dX12_who_1 (by rw [c13]; decide) (by rw [c13]; decide) (by rw [c13]; rfl) (by decide) ?_
            refine lv_iconst (v := 1) hx hb dX12_who_58 (by decide) ?_
            refine lv_aload_n hx hb dX12_who_59 rfl (lv_at hl 0 rfl) ?_
            refine w_get (T := TX12) C hw (by decide) 13 kf_X12_154 (EM_0 X _ _) rfl inA12 (by decide) rfl dX12_who_60 ?_
            refine lv_ishl hx hb dX12_who_63 ?_
            refine lv_iconst (v := 1) hx hb dX12_who_64 (by decide) ?_
            refine lv_isub hx hb dX12_who_65 ?_
            refine lv_topi (fun x14 e15 => ?_)
            replace hf := bnd_nm hf e15
            refine lv_istore_n (lv' := [(2, .int x14), (0, .ref (xq X 0)), (1, .int a1)]) hx hb dX12_who_66 rfl hl (by decide) rfl (fun ls hl => ?_)
            refine lv_iconst (v := 0) hx hb dX12_who_67 (by decide) ?_
            refine lv_istore_n (lv' := [(3, .int (0 : Int32)), (2, .int x14), (0, .ref (xq X 0)), (1, .int a1)]) hx hb dX12_who_68 rfl hl (by decide) rfl (fun ls hl => ?_)
            exact tX12_who_69 C hr n st x14 (0 : Int32) _ _ _ hw (lv_sub hl [2, 1, 0] rfl) hf
          · replace hf := ite_f hf c13
            refine lv_tableOut (tgt := 95) hx hb dX12_who_1 (by have q0 := ne_toInt (a := 0) c1 (by decide); have q1 := ne_toInt (a := 1) c4 (by decide); have q2 := ne_toInt (a := 2) c7 (by decide); have q3 := ne_toInt (a := 3) c10 (by decide); have q4 := ne_toInt (a := 4) c13 (by decide); omega) (by decide) ?_
            refine lv_iconst (v := -1) hx hb dX12_who_95 (by decide) ?_
            exact w_iret C hw hr (so2 hf).1 (so2 hf).2 dX12_who_96
theorem dX12_hedge_0 : decode cX12_hedge 0 = .ok (.aload_n 0, 1) := by decide +kernel
theorem dX12_hedge_1 : decode cX12_hedge 1 = .ok (.iload_n 1, 1) := by decide +kernel
theorem dX12_hedge_2 : decode cX12_hedge 2 = .ok (.invokevirtual 194, 3) := by decide +kernel
theorem dX12_hedge_5 : decode cX12_hedge 5 = .ok (.ifCond .eq 19, 3) := by decide +kernel
theorem dX12_hedge_8 : decode cX12_hedge 8 = .ok (.iload_n 2, 1) := by decide +kernel
theorem dX12_hedge_9 : decode cX12_hedge 9 = .ok (.invokestatic 157, 3) := by decide +kernel
theorem dX12_hedge_12 : decode cX12_hedge 12 = .ok (.ifCond .eq 12, 3) := by decide +kernel
theorem dX12_hedge_15 : decode cX12_hedge 15 = .ok (.aload_n 0, 1) := by decide +kernel
theorem dX12_hedge_16 : decode cX12_hedge 16 = .ok (.getfield 22, 3) := by decide +kernel
theorem dX12_hedge_19 : decode cX12_hedge 19 = .ok (.iload_n 1, 1) := by decide +kernel
theorem dX12_hedge_20 : decode cX12_hedge 20 = .ok (.iaload, 1) := by decide +kernel
theorem dX12_hedge_21 : decode cX12_hedge 21 = .ok (.ifCond .ge 6, 3) := by decide +kernel
theorem dX12_hedge_24 : decode cX12_hedge 24 = .ok (.ldc 213, 2) := by decide +kernel
theorem dX12_hedge_26 : decode cX12_hedge 26 = .ok (.ireturn, 1) := by decide +kernel
theorem dX12_hedge_27 : decode cX12_hedge 27 = .ok (.aload_n 0, 1) := by decide +kernel
theorem dX12_hedge_28 : decode cX12_hedge 28 = .ok (.getfield 16, 3) := by decide +kernel
theorem dX12_hedge_31 : decode cX12_hedge 31 = .ok (.iload_n 1, 1) := by decide +kernel
theorem dX12_hedge_32 : decode cX12_hedge 32 = .ok (.iaload, 1) := by decide +kernel
theorem dX12_hedge_33 : decode cX12_hedge 33 = .ok (.istore_n 3, 1) := by decide +kernel
theorem dX12_hedge_34 : decode cX12_hedge 34 = .ok (.aload_n 0, 1) := by decide +kernel
theorem dX12_hedge_35 : decode cX12_hedge 35 = .ok (.getfield 19, 3) := by decide +kernel
theorem dX12_hedge_38 : decode cX12_hedge 38 = .ok (.iload_n 1, 1) := by decide +kernel
theorem dX12_hedge_39 : decode cX12_hedge 39 = .ok (.iaload, 1) := by decide +kernel
theorem dX12_hedge_40 : decode cX12_hedge 40 = .ok (.istore 4, 2) := by decide +kernel
theorem dX12_hedge_42 : decode cX12_hedge 42 = .ok (.aload_n 0, 1) := by decide +kernel
theorem dX12_hedge_43 : decode cX12_hedge 43 = .ok (.invokevirtual 315, 3) := by decide +kernel
theorem dX12_hedge_46 : decode cX12_hedge 46 = .ok (.aload_n 0, 1) := by decide +kernel
theorem dX12_hedge_47 : decode cX12_hedge 47 = .ok (.aload_n 0, 1) := by decide +kernel
theorem dX12_hedge_48 : decode cX12_hedge 48 = .ok (.getfield 22, 3) := by decide +kernel
theorem dX12_hedge_51 : decode cX12_hedge 51 = .ok (.iload_n 1, 1) := by decide +kernel
theorem dX12_hedge_52 : decode cX12_hedge 52 = .ok (.iaload, 1) := by decide +kernel
theorem dX12_hedge_53 : decode cX12_hedge 53 = .ok (.invokevirtual 321, 3) := by decide +kernel
theorem dX12_hedge_56 : decode cX12_hedge 56 = .ok (.istore 5, 2) := by decide +kernel
theorem dX12_hedge_58 : decode cX12_hedge 58 = .ok (.aload_n 0, 1) := by decide +kernel
theorem dX12_hedge_59 : decode cX12_hedge 59 = .ok (.getfield 16, 3) := by decide +kernel
theorem dX12_hedge_62 : decode cX12_hedge 62 = .ok (.iload_n 1, 1) := by decide +kernel
theorem dX12_hedge_63 : decode cX12_hedge 63 = .ok (.iload_n 2, 1) := by decide +kernel
theorem dX12_hedge_64 : decode cX12_hedge 64 = .ok (.bipush 100, 2) := by decide +kernel
theorem dX12_hedge_66 : decode cX12_hedge 66 = .ok (.idiv, 1) := by decide +kernel
theorem dX12_hedge_67 : decode cX12_hedge 67 = .ok (.iastore, 1) := by decide +kernel
theorem dX12_hedge_68 : decode cX12_hedge 68 = .ok (.aload_n 0, 1) := by decide +kernel
theorem dX12_hedge_69 : decode cX12_hedge 69 = .ok (.getfield 19, 3) := by decide +kernel
theorem dX12_hedge_72 : decode cX12_hedge 72 = .ok (.iload_n 1, 1) := by decide +kernel
theorem dX12_hedge_73 : decode cX12_hedge 73 = .ok (.iload_n 2, 1) := by decide +kernel
theorem dX12_hedge_74 : decode cX12_hedge 74 = .ok (.bipush 100, 2) := by decide +kernel
theorem dX12_hedge_76 : decode cX12_hedge 76 = .ok (.irem, 1) := by decide +kernel
theorem dX12_hedge_77 : decode cX12_hedge 77 = .ok (.iastore, 1) := by decide +kernel
theorem dX12_hedge_78 : decode cX12_hedge 78 = .ok (.aload_n 0, 1) := by decide +kernel
theorem dX12_hedge_79 : decode cX12_hedge 79 = .ok (.invokevirtual 315, 3) := by decide +kernel
theorem dX12_hedge_82 : decode cX12_hedge 82 = .ok (.aload_n 0, 1) := by decide +kernel
theorem dX12_hedge_83 : decode cX12_hedge 83 = .ok (.aload_n 0, 1) := by decide +kernel
theorem dX12_hedge_84 : decode cX12_hedge 84 = .ok (.getfield 22, 3) := by decide +kernel
theorem dX12_hedge_87 : decode cX12_hedge 87 = .ok (.iload_n 1, 1) := by decide +kernel
theorem dX12_hedge_88 : decode cX12_hedge 88 = .ok (.iaload, 1) := by decide +kernel
theorem dX12_hedge_89 : decode cX12_hedge 89 = .ok (.invokevirtual 321, 3) := by decide +kernel
theorem dX12_hedge_92 : decode cX12_hedge 92 = .ok (.istore 6, 2) := by decide +kernel
theorem dX12_hedge_94 : decode cX12_hedge 94 = .ok (.aload_n 0, 1) := by decide +kernel
theorem dX12_hedge_95 : decode cX12_hedge 95 = .ok (.getfield 16, 3) := by decide +kernel
theorem dX12_hedge_98 : decode cX12_hedge 98 = .ok (.iload_n 1, 1) := by decide +kernel
theorem dX12_hedge_99 : decode cX12_hedge 99 = .ok (.iload_n 3, 1) := by decide +kernel
theorem dX12_hedge_100 : decode cX12_hedge 100 = .ok (.iastore, 1) := by decide +kernel
theorem dX12_hedge_101 : decode cX12_hedge 101 = .ok (.aload_n 0, 1) := by decide +kernel
theorem dX12_hedge_102 : decode cX12_hedge 102 = .ok (.getfield 19, 3) := by decide +kernel
theorem dX12_hedge_105 : decode cX12_hedge 105 = .ok (.iload_n 1, 1) := by decide +kernel
theorem dX12_hedge_106 : decode cX12_hedge 106 = .ok (.iload 4, 2) := by decide +kernel
theorem dX12_hedge_108 : decode cX12_hedge 108 = .ok (.iastore, 1) := by decide +kernel
theorem dX12_hedge_109 : decode cX12_hedge 109 = .ok (.iload 6, 2) := by decide +kernel
theorem dX12_hedge_111 : decode cX12_hedge 111 = .ok (.iload 5, 2) := by decide +kernel
theorem dX12_hedge_113 : decode cX12_hedge 113 = .ok (.isub, 1) := by decide +kernel
theorem dX12_hedge_114 : decode cX12_hedge 114 = .ok (.ireturn, 1) := by decide +kernel
theorem ok_yX12_hedge : yOk yX12_hedge 2 := ⟨by decide +kernel, by decide +kernel, by decide +kernel⟩
def fX12_hedge (n : Nat) (st : St) (a1 : Int32) (a2 : Int32) : Option (Int32 × St) := if bI (fX12_isField st a1) = 0 then (some ((-2000000000 : Int32), st)) else (if bI (fX12_areSides a2) = 0 then (some ((-2000000000 : Int32), st)) else (gd (inB a1 8) (if 0 ≤ gI st 5 a1.toNatClampNeg then (gd (inB a1 8) (bnd (gI st 3 a1.toNatClampNeg) (fun x6 => gd (inB a1 8) (bnd (gI st 4 a1.toNatClampNeg) (fun x9 => (fX12_findOwed n st).bind (fun r11 => gd (inB a1 8) ((fX12_owesAll n r11 (gI r11 5 a1.toNatClampNeg)).bind (fun r14 => gd (inB a1 8) (bnd (sI r11 3 a1.toNatClampNeg (a2 / (100 : Int32))) (fun st17 => gd (inB a1 8) (bnd (sI st17 4 a1.toNatClampNeg (rmI a2 (100 : Int32))) (fun st20 => (fX12_findOwed n st20).bind (fun r22 => gd (inB a1 8) ((fX12_owesAll n r22 (gI r22 5 a1.toNatClampNeg)).bind (fun r25 => gd (inB a1 8) (bnd (sI r22 3 a1.toNatClampNeg x6) (fun st28 => gd (inB a1 8) (bnd (sI st28 4 a1.toNatClampNeg x9) (fun st31 => some ((r25 - r14), st31)))))))))))))))))))) else (some ((-2000000000 : Int32), st)))))
set_option maxHeartbeats 4000000 in
theorem zX12_hedge (l : Launch) (X : WX) (n : Nat) (st : St) (a1 : Int32) (a2 : Int32) (R : Int32 × St) (hf : fX12_hedge n st a1 a2 = some R) : CtI l yX12_hedge cX12_hedge 7 .int ({ frames := 7, cells := 0, slots := 0, locals := 167 }) EM 43 X [.ref (xq X 0), .int a1, .int a2] st R.1 R.2 := by
  refine ct_in (own := RX12) (by decide +kernel) rfl (Nat.le_of_ble_eq_true rfl) (fun p e s m below meth c C hr hw ls hl => ?_)
  obtain ⟨hx, hb, hml, hown, hts⟩ := id C.1
  have hl : lv_has ls 7 [(0, .ref (xq X 0)), (1, .int a1), (2, .int a2)] := hl
  unfold fX12_hedge at hf
  refine lv_aload_n hx hb dX12_hedge_0 rfl (lv_at hl 0 rfl) ?_
  refine lv_iload_n hx hb dX12_hedge_1 rfl (lv_at hl 1 rfl) ?_
  refine w_goI hw (w_runV (rest := []) C hw (zX12_isField _ _ st a1) (by decide) (EM_0 X _ _) rfl km_X12_194 ki_yX12_isField kv_X12_isField kz_X12 kc_X12_isField rfl ok_yX12_isField ⟨Nat.le_of_ble_eq_true rfl, Nat.le_of_ble_eq_true rfl⟩ rfl rfl rfl rfl hl.1 (Nat.le_of_ble_eq_true rfl) dX12_hedge_2 ⟨Nat.zero_le _, Nat.zero_le _⟩) (fun H locs hw => ?_)
  refine lv_if_eq (tgt := 24) hx hb dX12_hedge_5 (by decide) (fun c1 => ?_) (fun c1 => ?_)
  · replace hf := ite_t hf c1
    refine lv_ldc (v := -2000000000) hx hb hown (hts _ kn_X12_213) dX12_hedge_24 ?_
    exact w_iret C hw hr (so2 hf).1 (so2 hf).2 dX12_hedge_26
  · replace hf := ite_f hf c1
    refine lv_iload_n hx hb dX12_hedge_8 rfl (lv_at hl 2 rfl) ?_
    refine w_goI hw (w_runS (rest := []) C hw (zX12_areSides _ _ st a2) km_X12_157 kt_yX12_areSides kz_X12 kc_X12_areSides ok_yX12_areSides ⟨Nat.le_of_ble_eq_true rfl, Nat.le_of_ble_eq_true rfl⟩ rfl rfl rfl rfl hl.1 (Nat.le_of_ble_eq_true rfl) dX12_hedge_9 ⟨Nat.zero_le _, Nat.zero_le _⟩) (fun H locs hw => ?_)
    refine lv_if_eq (tgt := 24) hx hb dX12_hedge_12 (by decide) (fun c2 => ?_) (fun c2 => ?_)
    · replace hf := ite_t hf c2
      refine lv_ldc (v := -2000000000) hx hb hown (hts _ kn_X12_213) dX12_hedge_24 ?_
      exact w_iret C hw hr (so2 hf).1 (so2 hf).2 dX12_hedge_26
    · replace hf := ite_f hf c2
      refine lv_aload_n hx hb dX12_hedge_15 rfl (lv_at hl 0 rfl) ?_
      refine w_get (T := TX12) C hw (by decide) 6 kf_X12_22 (EM_0 X _ _) rfl inA12 (by decide) rfl dX12_hedge_16 ?_
      refine lv_iload_n hx hb dX12_hedge_19 rfl (lv_at hl 1 rfl) ?_
      obtain ⟨h3, hf⟩ := gd_some hf
      refine w_iald C hw (by decide) (EM_5 X _ _) h3 rfl dX12_hedge_20 ?_
      refine lv_if_ge (tgt := 27) hx hb dX12_hedge_21 (by decide) (fun c4 => ?_) (fun c4 => ?_)
      · replace hf := ite_t hf c4
        refine lv_aload_n hx hb dX12_hedge_27 rfl (lv_at hl 0 rfl) ?_
        refine w_get (T := TX12) C hw (by decide) 4 kf_X12_16 (EM_0 X _ _) rfl inA12 (by decide) rfl dX12_hedge_28 ?_
        refine lv_iload_n hx hb dX12_hedge_31 rfl (lv_at hl 1 rfl) ?_
        obtain ⟨h5, hf⟩ := gd_some hf
        refine w_iald C hw (by decide) (EM_3 X _ _) h5 rfl dX12_hedge_32 ?_
        refine lv_topi (fun x6 e7 => ?_)
        replace hf := bnd_nm hf e7
        refine lv_istore_n (lv' := [(3, .int x6), (0, .ref (xq X 0)), (1, .int a1), (2, .int a2)]) hx hb dX12_hedge_33 rfl hl (by decide) rfl (fun ls hl => ?_)
        refine lv_aload_n hx hb dX12_hedge_34 rfl (lv_at hl 1 rfl) ?_
        refine w_get (T := TX12) C hw (by decide) 5 kf_X12_19 (EM_0 X _ _) rfl inA12 (by decide) rfl dX12_hedge_35 ?_
        refine lv_iload_n hx hb dX12_hedge_38 rfl (lv_at hl 2 rfl) ?_
        obtain ⟨h8, hf⟩ := gd_some hf
        refine w_iald C hw (by decide) (EM_4 X _ _) h8 rfl dX12_hedge_39 ?_
        refine lv_topi (fun x9 e10 => ?_)
        replace hf := bnd_nm hf e10
        refine lv_istore (lv' := [(4, .int x9), (3, .int x6), (0, .ref (xq X 0)), (1, .int a1), (2, .int a2)]) hx hb dX12_hedge_40 hl (by decide) rfl (fun ls hl => ?_)
        refine lv_aload_n hx hb dX12_hedge_42 rfl (lv_at hl 2 rfl) ?_
        obtain ⟨r11, k12, hf⟩ := bd_some hf
        refine w_goV hw (w_runV (rest := []) C hw (zX12_findOwed _ _ n st r11 k12) (by decide) (EM_0 X _ _) rfl km_X12_315 ki_yX12_findOwed kv_X12_findOwed kz_X12 kc_X12_findOwed rfl ok_yX12_findOwed ⟨Nat.le_of_ble_eq_true rfl, Nat.le_of_ble_eq_true rfl⟩ rfl rfl rfl rfl hl.1 (Nat.le_of_ble_eq_true rfl) dX12_hedge_43 ⟨Nat.zero_le _, Nat.zero_le _⟩) (fun H locs hw => ?_)
        refine lv_aload_n hx hb dX12_hedge_46 rfl (lv_at hl 2 rfl) ?_
        refine lv_aload_n hx hb dX12_hedge_47 rfl (lv_at hl 2 rfl) ?_
        refine w_get (T := TX12) C hw (by decide) 6 kf_X12_22 (EM_0 X _ _) rfl inA12 (by decide) rfl dX12_hedge_48 ?_
        refine lv_iload_n hx hb dX12_hedge_51 rfl (lv_at hl 3 rfl) ?_
        obtain ⟨h13, hf⟩ := gd_some hf
        refine w_iald C hw (by decide) (EM_5 X _ _) h13 rfl dX12_hedge_52 ?_
        obtain ⟨r14, k15, hf⟩ := bd_some hf
        refine w_goI hw (w_runV (rest := []) C hw (zX12_owesAll _ _ n r11 (gI r11 5 a1.toNatClampNeg) r14 k15) (by decide) (EM_0 X _ _) rfl km_X12_321 ki_yX12_owesAll kv_X12_owesAll kz_X12 kc_X12_owesAll rfl ok_yX12_owesAll ⟨Nat.le_of_ble_eq_true rfl, Nat.le_of_ble_eq_true rfl⟩ rfl rfl rfl rfl hl.1 (Nat.le_of_ble_eq_true rfl) dX12_hedge_53 ⟨Nat.zero_le _, Nat.zero_le _⟩) (fun H locs hw => ?_)
        refine lv_istore (lv' := [(5, .int r14), (4, .int x9), (3, .int x6), (0, .ref (xq X 0)), (1, .int a1), (2, .int a2)]) hx hb dX12_hedge_56 hl (by decide) rfl (fun ls hl => ?_)
        refine lv_aload_n hx hb dX12_hedge_58 rfl (lv_at hl 3 rfl) ?_
        refine w_get (T := TX12) C hw (by decide) 4 kf_X12_16 (EM_0 X _ _) rfl inA12 (by decide) rfl dX12_hedge_59 ?_
        refine lv_iload_n hx hb dX12_hedge_62 rfl (lv_at hl 4 rfl) ?_
        refine lv_iload_n hx hb dX12_hedge_63 rfl (lv_at hl 5 rfl) ?_
        refine lv_bipush (v := 100) hx hb dX12_hedge_64 (by decide) ?_
        refine lv_idiv hx hb dX12_hedge_66 (by decide) ?_
        obtain ⟨h16, hf⟩ := gd_some hf
        obtain ⟨st17, es18⟩ : ∃ z : St, z = sI r11 3 a1.toNatClampNeg (a2 / (100 : Int32)) := ⟨_, rfl⟩
        replace hf := bnd_nm hf es18
        refine w_iast C hw (by decide) (fun f9 => EM_3 X f9 _) h16 rfl dX12_hedge_67 (fun H locs hw => ?_)
        rw [← es18] at hw
        refine lv_aload_n hx hb dX12_hedge_68 rfl (lv_at hl 3 rfl) ?_
        refine w_get (T := TX12) C hw (by decide) 5 kf_X12_19 (EM_0 X _ _) rfl inA12 (by decide) rfl dX12_hedge_69 ?_
        refine lv_iload_n hx hb dX12_hedge_72 rfl (lv_at hl 4 rfl) ?_
        refine lv_iload_n hx hb dX12_hedge_73 rfl (lv_at hl 5 rfl) ?_
        refine lv_bipush (v := 100) hx hb dX12_hedge_74 (by decide) ?_
        refine w_irem C (by decide) dX12_hedge_76 ?_
        obtain ⟨h19, hf⟩ := gd_some hf
        obtain ⟨st20, es21⟩ : ∃ z : St, z = sI st17 4 a1.toNatClampNeg (rmI a2 (100 : Int32)) := ⟨_, rfl⟩
        replace hf := bnd_nm hf es21
        refine w_iast C hw (by decide) (fun f9 => EM_4 X f9 _) h19 rfl dX12_hedge_77 (fun H locs hw => ?_)
        rw [← es21] at hw
        refine lv_aload_n hx hb dX12_hedge_78 rfl (lv_at hl 3 rfl) ?_
        obtain ⟨r22, k23, hf⟩ := bd_some hf
        refine w_goV hw (w_runV (rest := []) C hw (zX12_findOwed _ _ n st20 r22 k23) (by decide) (EM_0 X _ _) rfl km_X12_315 ki_yX12_findOwed kv_X12_findOwed kz_X12 kc_X12_findOwed rfl ok_yX12_findOwed ⟨Nat.le_of_ble_eq_true rfl, Nat.le_of_ble_eq_true rfl⟩ rfl rfl rfl rfl hl.1 (Nat.le_of_ble_eq_true rfl) dX12_hedge_79 ⟨Nat.zero_le _, Nat.zero_le _⟩) (fun H locs hw => ?_)
        refine lv_aload_n hx hb dX12_hedge_82 rfl (lv_at hl 3 rfl) ?_
        refine lv_aload_n hx hb dX12_hedge_83 rfl (lv_at hl 3 rfl) ?_
        refine w_get (T := TX12) C hw (by decide) 6 kf_X12_22 (EM_0 X _ _) rfl inA12 (by decide) rfl dX12_hedge_84 ?_
        refine lv_iload_n hx hb dX12_hedge_87 rfl (lv_at hl 4 rfl) ?_
        obtain ⟨h24, hf⟩ := gd_some hf
        refine w_iald C hw (by decide) (EM_5 X _ _) h24 rfl dX12_hedge_88 ?_
        obtain ⟨r25, k26, hf⟩ := bd_some hf
        refine w_goI hw (w_runV (rest := []) C hw (zX12_owesAll _ _ n r22 (gI r22 5 a1.toNatClampNeg) r25 k26) (by decide) (EM_0 X _ _) rfl km_X12_321 ki_yX12_owesAll kv_X12_owesAll kz_X12 kc_X12_owesAll rfl ok_yX12_owesAll ⟨Nat.le_of_ble_eq_true rfl, Nat.le_of_ble_eq_true rfl⟩ rfl rfl rfl rfl hl.1 (Nat.le_of_ble_eq_true rfl) dX12_hedge_89 ⟨Nat.zero_le _, Nat.zero_le _⟩) (fun H locs hw => ?_)
        refine lv_istore (lv' := [(6, .int r25), (5, .int r14), (4, .int x9), (3, .int x6), (0, .ref (xq X 0)), (1, .int a1), (2, .int a2)]) hx hb dX12_hedge_92 hl (by decide) rfl (fun ls hl => ?_)
        refine lv_aload_n hx hb dX12_hedge_94 rfl (lv_at hl 4 rfl) ?_
        refine w_get (T := TX12) C hw (by decide) 4 kf_X12_16 (EM_0 X _ _) rfl inA12 (by decide) rfl dX12_hedge_95 ?_
        refine lv_iload_n hx hb dX12_hedge_98 rfl (lv_at hl 5 rfl) ?_
        refine lv_iload_n hx hb dX12_hedge_99 rfl (lv_at hl 3 rfl) ?_
        obtain ⟨h27, hf⟩ := gd_some hf
        obtain ⟨st28, es29⟩ : ∃ z : St, z = sI r22 3 a1.toNatClampNeg x6 := ⟨_, rfl⟩
        replace hf := bnd_nm hf es29
        refine w_iast C hw (by decide) (fun f9 => EM_3 X f9 _) h27 rfl dX12_hedge_100 (fun H locs hw => ?_)
        rw [← es29] at hw
        refine lv_aload_n hx hb dX12_hedge_101 rfl (lv_at hl 4 rfl) ?_
        refine w_get (T := TX12) C hw (by decide) 5 kf_X12_19 (EM_0 X _ _) rfl inA12 (by decide) rfl dX12_hedge_102 ?_
        refine lv_iload_n hx hb dX12_hedge_105 rfl (lv_at hl 5 rfl) ?_
        refine lv_iload hx hb dX12_hedge_106 (lv_at hl 2 rfl) ?_
        obtain ⟨h30, hf⟩ := gd_some hf
        obtain ⟨st31, es32⟩ : ∃ z : St, z = sI st28 4 a1.toNatClampNeg x9 := ⟨_, rfl⟩
        replace hf := bnd_nm hf es32
        refine w_iast C hw (by decide) (fun f9 => EM_4 X f9 _) h30 rfl dX12_hedge_108 (fun H locs hw => ?_)
        rw [← es32] at hw
        refine lv_iload hx hb dX12_hedge_109 (lv_at hl 0 rfl) ?_
        refine lv_iload hx hb dX12_hedge_111 (lv_at hl 1 rfl) ?_
        refine lv_isub hx hb dX12_hedge_113 ?_
        exact w_iret C hw hr (so2 hf).1 (so2 hf).2 dX12_hedge_114
      · replace hf := ite_f hf c4
        refine lv_ldc (v := -2000000000) hx hb hown (hts _ kn_X12_213) dX12_hedge_24 ?_
        exact w_iret C hw hr (so2 hf).1 (so2 hf).2 dX12_hedge_26
theorem dX12_hasIt_0 : decode cX12_hasIt 0 = .ok (.aload_n 0, 1) := by decide +kernel
theorem dX12_hasIt_1 : decode cX12_hasIt 1 = .ok (.iload_n 1, 1) := by decide +kernel
theorem dX12_hasIt_2 : decode cX12_hasIt 2 = .ok (.invokevirtual 303, 3) := by decide +kernel
theorem dX12_hasIt_5 : decode cX12_hasIt 5 = .ok (.iload_n 2, 1) := by decide +kernel
theorem dX12_hasIt_6 : decode cX12_hasIt 6 = .ok (.ishr, 1) := by decide +kernel
theorem dX12_hasIt_7 : decode cX12_hasIt 7 = .ok (.iconst 1, 1) := by decide +kernel
theorem dX12_hasIt_8 : decode cX12_hasIt 8 = .ok (.iand, 1) := by decide +kernel
theorem dX12_hasIt_9 : decode cX12_hasIt 9 = .ok (.iconst 1, 1) := by decide +kernel
theorem dX12_hasIt_10 : decode cX12_hasIt 10 = .ok (.if_icmp .ne 7, 3) := by decide +kernel
theorem dX12_hasIt_13 : decode cX12_hasIt 13 = .ok (.iconst 1, 1) := by decide +kernel
theorem dX12_hasIt_14 : decode cX12_hasIt 14 = .ok (.goto 4, 3) := by decide +kernel
theorem dX12_hasIt_17 : decode cX12_hasIt 17 = .ok (.iconst 0, 1) := by decide +kernel
theorem dX12_hasIt_18 : decode cX12_hasIt 18 = .ok (.ireturn, 1) := by decide +kernel
theorem ok_yX12_hasIt : yOk yX12_hasIt 2 := ⟨by decide +kernel, by decide +kernel, by decide +kernel⟩
def fX12_hasIt (n : Nat) (st : St) (a1 : Int32) (a2 : Int32) : Option (Bool × St) := (fX12_haveIt n st a1).bind (fun r1 => if (r1.1 >>> (a2 &&& 31)) &&& (1 : Int32) = (1 : Int32) then (some (true, r1.2)) else (some (false, r1.2)))
set_option maxHeartbeats 4000000 in
theorem zX12_hasIt (l : Launch) (X : WX) (n : Nat) (st : St) (a1 : Int32) (a2 : Int32) (R : Bool × St) (hf : fX12_hasIt n st a1 a2 = some R) : CtI l yX12_hasIt cX12_hasIt 3 .boolean ({ frames := 5, cells := 0, slots := 0, locals := 120 }) EM 43 X [.ref (xq X 0), .int a1, .int a2] st (bI R.1) R.2 := by
  refine ct_in (own := RX12) (by decide +kernel) rfl (Nat.le_of_ble_eq_true rfl) (fun p e s m below meth c C hr hw ls hl => ?_)
  obtain ⟨hx, hb, hml, hown, hts⟩ := id C.1
  have hl : lv_has ls 3 [(0, .ref (xq X 0)), (1, .int a1), (2, .int a2)] := hl
  unfold fX12_hasIt at hf
  refine lv_aload_n hx hb dX12_hasIt_0 rfl (lv_at hl 0 rfl) ?_
  refine lv_iload_n hx hb dX12_hasIt_1 rfl (lv_at hl 1 rfl) ?_
  obtain ⟨r1, k2, hf⟩ := bd_some hf
  refine w_goI hw (w_runV (rest := []) C hw (zX12_haveIt _ _ n st a1 r1 k2) (by decide) (EM_0 X _ _) rfl km_X12_303 ki_yX12_haveIt kv_X12_haveIt kz_X12 kc_X12_haveIt rfl ok_yX12_haveIt ⟨Nat.le_of_ble_eq_true rfl, Nat.le_of_ble_eq_true rfl⟩ rfl rfl rfl rfl hl.1 (Nat.le_of_ble_eq_true rfl) dX12_hasIt_2 ⟨Nat.zero_le _, Nat.zero_le _⟩) (fun H locs hw => ?_)
  refine lv_iload_n hx hb dX12_hasIt_5 rfl (lv_at hl 2 rfl) ?_
  refine lv_ishr hx hb dX12_hasIt_6 ?_
  refine lv_iconst (v := 1) hx hb dX12_hasIt_7 (by decide) ?_
  refine lv_iand hx hb dX12_hasIt_8 ?_
  refine lv_iconst (v := 1) hx hb dX12_hasIt_9 (by decide) ?_
  refine lv_icmp_ne (tgt := 17) hx hb dX12_hasIt_10 (by decide) (fun c3 => ?_) (fun c3 => ?_)
  · replace hf := ite_f hf c3
    refine lv_iconst (v := 0) hx hb dX12_hasIt_17 (by decide) ?_
    exact w_zret (b := false) C hw hr rfl (so2 hf).1 (so2 hf).2 dX12_hasIt_18
  · replace hf := ite_t hf c3
    refine lv_iconst (v := 1) hx hb dX12_hasIt_13 (by decide) ?_
    refine lv_goto (tgt := 18) hx hb dX12_hasIt_14 (by decide) ?_
    exact w_zret (b := true) C hw hr rfl (so2 hf).1 (so2 hf).2 dX12_hasIt_18
theorem dX12_areFallCry_0 : decode cX12_areFallCry 0 = .ok (.iload_n 1, 1) := by decide +kernel
theorem dX12_areFallCry_1 : decode cX12_areFallCry 1 = .ok (.ifCond .lt 29, 3) := by decide +kernel
theorem dX12_areFallCry_4 : decode cX12_areFallCry 4 = .ok (.aload_n 0, 1) := by decide +kernel
theorem dX12_areFallCry_5 : decode cX12_areFallCry 5 = .ok (.iload_n 1, 1) := by decide +kernel
theorem dX12_areFallCry_6 : decode cX12_areFallCry 6 = .ok (.bipush 100, 2) := by decide +kernel
theorem dX12_areFallCry_8 : decode cX12_areFallCry 8 = .ok (.idiv, 1) := by decide +kernel
theorem dX12_areFallCry_9 : decode cX12_areFallCry 9 = .ok (.invokevirtual 197, 3) := by decide +kernel
theorem dX12_areFallCry_12 : decode cX12_areFallCry 12 = .ok (.ifCond .eq 18, 3) := by decide +kernel
theorem dX12_areFallCry_15 : decode cX12_areFallCry 15 = .ok (.aload_n 0, 1) := by decide +kernel
theorem dX12_areFallCry_16 : decode cX12_areFallCry 16 = .ok (.iload_n 1, 1) := by decide +kernel
theorem dX12_areFallCry_17 : decode cX12_areFallCry 17 = .ok (.bipush 100, 2) := by decide +kernel
theorem dX12_areFallCry_19 : decode cX12_areFallCry 19 = .ok (.irem, 1) := by decide +kernel
theorem dX12_areFallCry_20 : decode cX12_areFallCry 20 = .ok (.invokevirtual 200, 3) := by decide +kernel
theorem dX12_areFallCry_23 : decode cX12_areFallCry 23 = .ok (.ifCond .eq 7, 3) := by decide +kernel
theorem dX12_areFallCry_26 : decode cX12_areFallCry 26 = .ok (.iconst 1, 1) := by decide +kernel
theorem dX12_areFallCry_27 : decode cX12_areFallCry 27 = .ok (.goto 4, 3) := by decide +kernel
theorem dX12_areFallCry_30 : decode cX12_areFallCry 30 = .ok (.iconst 0, 1) := by decide +kernel
theorem dX12_areFallCry_31 : decode cX12_areFallCry 31 = .ok (.ireturn, 1) := by decide +kernel
theorem ok_yX12_areFallCry : yOk yX12_areFallCry 1 := ⟨by decide +kernel, by decide +kernel, by decide +kernel⟩
def fX12_areFallCry (st : St) (a1 : Int32) : Bool := if a1 < 0 then (false) else (if bI (fX12_isFall st (a1 / (100 : Int32))) = 0 then (false) else (if bI (fX12_isCry st (rmI a1 (100 : Int32))) = 0 then (false) else (true)))
set_option maxHeartbeats 4000000 in
theorem zX12_areFallCry (l : Launch) (X : WX) (st : St) (a1 : Int32) : CtI l yX12_areFallCry cX12_areFallCry 2 .boolean ({ frames := 2, cells := 0, slots := 0, locals := 43 }) EM 43 X [.ref (xq X 0), .int a1] st (bI (fX12_areFallCry st a1)) st := by
  generalize hf : fX12_areFallCry st a1 = R
  refine ct_in (own := RX12) (by decide +kernel) rfl (Nat.le_of_ble_eq_true rfl) (fun p e s m below meth c C hr hw ls hl => ?_)
  obtain ⟨hx, hb, hml, hown, hts⟩ := id C.1
  have hl : lv_has ls 2 [(0, .ref (xq X 0)), (1, .int a1)] := hl
  unfold fX12_areFallCry at hf
  refine lv_iload_n hx hb dX12_areFallCry_0 rfl (lv_at hl 1 rfl) ?_
  refine lv_if_lt (tgt := 30) hx hb dX12_areFallCry_1 (by decide) (fun c1 => ?_) (fun c1 => ?_)
  · replace hf := ite_t hf c1
    refine lv_iconst (v := 0) hx hb dX12_areFallCry_30 (by decide) ?_
    exact w_zret (b := false) C hw hr rfl hf rfl dX12_areFallCry_31
  · replace hf := ite_f hf c1
    refine lv_aload_n hx hb dX12_areFallCry_4 rfl (lv_at hl 0 rfl) ?_
    refine lv_iload_n hx hb dX12_areFallCry_5 rfl (lv_at hl 1 rfl) ?_
    refine lv_bipush (v := 100) hx hb dX12_areFallCry_6 (by decide) ?_
    refine lv_idiv hx hb dX12_areFallCry_8 (by decide) ?_
    refine w_goI hw (w_runV (rest := []) C hw (zX12_isFall _ _ st (a1 / (100 : Int32))) (by decide) (EM_0 X _ _) rfl km_X12_197 ki_yX12_isFall kv_X12_isFall kz_X12 kc_X12_isFall rfl ok_yX12_isFall ⟨Nat.le_of_ble_eq_true rfl, Nat.le_of_ble_eq_true rfl⟩ rfl rfl rfl rfl hl.1 (Nat.le_of_ble_eq_true rfl) dX12_areFallCry_9 ⟨Nat.zero_le _, Nat.zero_le _⟩) (fun H locs hw => ?_)
    refine lv_if_eq (tgt := 30) hx hb dX12_areFallCry_12 (by decide) (fun c2 => ?_) (fun c2 => ?_)
    · replace hf := ite_t hf c2
      refine lv_iconst (v := 0) hx hb dX12_areFallCry_30 (by decide) ?_
      exact w_zret (b := false) C hw hr rfl hf rfl dX12_areFallCry_31
    · replace hf := ite_f hf c2
      refine lv_aload_n hx hb dX12_areFallCry_15 rfl (lv_at hl 0 rfl) ?_
      refine lv_iload_n hx hb dX12_areFallCry_16 rfl (lv_at hl 1 rfl) ?_
      refine lv_bipush (v := 100) hx hb dX12_areFallCry_17 (by decide) ?_
      refine w_irem C (by decide) dX12_areFallCry_19 ?_
      refine w_goI hw (w_runV (rest := []) C hw (zX12_isCry _ _ st (rmI a1 (100 : Int32))) (by decide) (EM_0 X _ _) rfl km_X12_200 ki_yX12_isCry kv_X12_isCry kz_X12 kc_X12_isCry rfl ok_yX12_isCry ⟨Nat.le_of_ble_eq_true rfl, Nat.le_of_ble_eq_true rfl⟩ rfl rfl rfl rfl hl.1 (Nat.le_of_ble_eq_true rfl) dX12_areFallCry_20 ⟨Nat.zero_le _, Nat.zero_le _⟩) (fun H locs hw => ?_)
      refine lv_if_eq (tgt := 30) hx hb dX12_areFallCry_23 (by decide) (fun c3 => ?_) (fun c3 => ?_)
      · replace hf := ite_t hf c3
        refine lv_iconst (v := 0) hx hb dX12_areFallCry_30 (by decide) ?_
        exact w_zret (b := false) C hw hr rfl hf rfl dX12_areFallCry_31
      · replace hf := ite_f hf c3
        refine lv_iconst (v := 1) hx hb dX12_areFallCry_26 (by decide) ?_
        refine lv_goto (tgt := 31) hx hb dX12_areFallCry_27 (by decide) ?_
        exact w_zret (b := true) C hw hr rfl hf rfl dX12_areFallCry_31
theorem dX12_later_0 : decode cX12_later 0 = .ok (.aload_n 0, 1) := by decide +kernel
theorem dX12_later_1 : decode cX12_later 1 = .ok (.iload_n 1, 1) := by decide +kernel
theorem dX12_later_2 : decode cX12_later 2 = .ok (.invokevirtual 349, 3) := by decide +kernel
theorem dX12_later_5 : decode cX12_later 5 = .ok (.ifCond .ne 5, 3) := by decide +kernel
theorem dX12_later_8 : decode cX12_later 8 = .ok (.iconst (-1), 1) := by decide +kernel
theorem dX12_later_9 : decode cX12_later 9 = .ok (.ireturn, 1) := by decide +kernel
theorem dX12_later_10 : decode cX12_later 10 = .ok (.iload_n 1, 1) := by decide +kernel
theorem dX12_later_11 : decode cX12_later 11 = .ok (.bipush 100, 2) := by decide +kernel
theorem dX12_later_13 : decode cX12_later 13 = .ok (.irem, 1) := by decide +kernel
theorem dX12_later_14 : decode cX12_later 14 = .ok (.istore_n 2, 1) := by decide +kernel
theorem dX12_later_15 : decode cX12_later 15 = .ok (.aload_n 0, 1) := by decide +kernel
theorem dX12_later_16 : decode cX12_later 16 = .ok (.getfield 43, 3) := by decide +kernel
theorem dX12_later_19 : decode cX12_later 19 = .ok (.iload_n 2, 1) := by decide +kernel
theorem dX12_later_20 : decode cX12_later 20 = .ok (.iaload, 1) := by decide +kernel
theorem dX12_later_21 : decode cX12_later 21 = .ok (.istore_n 3, 1) := by decide +kernel
theorem dX12_later_22 : decode cX12_later 22 = .ok (.bipush (-2), 2) := by decide +kernel
theorem dX12_later_24 : decode cX12_later 24 = .ok (.istore 4, 2) := by decide +kernel
theorem dX12_later_26 : decode cX12_later 26 = .ok (.iconst 0, 1) := by decide +kernel
theorem dX12_later_27 : decode cX12_later 27 = .ok (.istore 5, 2) := by decide +kernel
theorem dX12_later_29 : decode cX12_later 29 = .ok (.iload 5, 2) := by decide +kernel
theorem dX12_later_31 : decode cX12_later 31 = .ok (.bipush 99, 2) := by decide +kernel
theorem dX12_later_33 : decode cX12_later 33 = .ok (.if_icmp .gt 53, 3) := by decide +kernel
theorem dX12_later_36 : decode cX12_later 36 = .ok (.iload_n 3, 1) := by decide +kernel
theorem dX12_later_37 : decode cX12_later 37 = .ok (.iload 5, 2) := by decide +kernel
theorem dX12_later_39 : decode cX12_later 39 = .ok (.iadd, 1) := by decide +kernel
theorem dX12_later_40 : decode cX12_later 40 = .ok (.sipush 999, 3) := by decide +kernel
theorem dX12_later_43 : decode cX12_later 43 = .ok (.if_icmp .gt 43, 3) := by decide +kernel
theorem dX12_later_46 : decode cX12_later 46 = .ok (.aload_n 0, 1) := by decide +kernel
theorem dX12_later_47 : decode cX12_later 47 = .ok (.getfield 43, 3) := by decide +kernel
theorem dX12_later_50 : decode cX12_later 50 = .ok (.iload_n 2, 1) := by decide +kernel
theorem dX12_later_51 : decode cX12_later 51 = .ok (.iload_n 3, 1) := by decide +kernel
theorem dX12_later_52 : decode cX12_later 52 = .ok (.iload 5, 2) := by decide +kernel
theorem dX12_later_54 : decode cX12_later 54 = .ok (.iadd, 1) := by decide +kernel
theorem dX12_later_55 : decode cX12_later 55 = .ok (.iastore, 1) := by decide +kernel
theorem dX12_later_56 : decode cX12_later 56 = .ok (.aload_n 0, 1) := by decide +kernel
theorem dX12_later_57 : decode cX12_later 57 = .ok (.iload_n 1, 1) := by decide +kernel
theorem dX12_later_58 : decode cX12_later 58 = .ok (.bipush 100, 2) := by decide +kernel
theorem dX12_later_60 : decode cX12_later 60 = .ok (.idiv, 1) := by decide +kernel
theorem dX12_later_61 : decode cX12_later 61 = .ok (.iload_n 2, 1) := by decide +kernel
theorem dX12_later_62 : decode cX12_later 62 = .ok (.invokevirtual 352, 3) := by decide +kernel
theorem dX12_later_65 : decode cX12_later 65 = .ok (.ifCond .ne 11, 3) := by decide +kernel
theorem dX12_later_68 : decode cX12_later 68 = .ok (.sipush 999, 3) := by decide +kernel
theorem dX12_later_71 : decode cX12_later 71 = .ok (.istore 5, 2) := by decide +kernel
theorem dX12_later_73 : decode cX12_later 73 = .ok (.goto 7, 3) := by decide +kernel
theorem dX12_later_76 : decode cX12_later 76 = .ok (.iload 5, 2) := by decide +kernel
theorem dX12_later_78 : decode cX12_later 78 = .ok (.istore 4, 2) := by decide +kernel
theorem dX12_later_80 : decode cX12_later 80 = .ok (.iinc 5 1, 3) := by decide +kernel
theorem dX12_later_83 : decode cX12_later 83 = .ok (.goto (-54), 3) := by decide +kernel
theorem dX12_later_86 : decode cX12_later 86 = .ok (.aload_n 0, 1) := by decide +kernel
theorem dX12_later_87 : decode cX12_later 87 = .ok (.getfield 43, 3) := by decide +kernel
theorem dX12_later_90 : decode cX12_later 90 = .ok (.iload_n 2, 1) := by decide +kernel
theorem dX12_later_91 : decode cX12_later 91 = .ok (.iload_n 3, 1) := by decide +kernel
theorem dX12_later_92 : decode cX12_later 92 = .ok (.iastore, 1) := by decide +kernel
theorem dX12_later_93 : decode cX12_later 93 = .ok (.iload 4, 2) := by decide +kernel
theorem dX12_later_95 : decode cX12_later 95 = .ok (.ireturn, 1) := by decide +kernel
theorem ok_yX12_later : yOk yX12_later 1 := ⟨by decide +kernel, by decide +kernel, by decide +kernel⟩
def fX12_later_29 (n : Nat) : Nat → St → Int32 → Int32 → Int32 → Int32 → Int32 → Option (Int32 × St)
  | 0, _, _, _, _, _, _ => none
  | k + 1, st, v1, v2, v3, v4, v5 => if (99 : Int32) < v5 then (gd (inB v2 13) (bnd (sI st 12 v2.toNatClampNeg v3) (fun st9 => some (v4, st9)))) else (if (999 : Int32) < v3 + v5 then (gd (inB v2 13) (bnd (sI st 12 v2.toNatClampNeg v3) (fun st13 => some (v4, st13)))) else (gd (inB v2 13) (bnd (sI st 12 v2.toNatClampNeg (v3 + v5)) (fun st16 => (fX12_hasIt n st16 (v1 / (100 : Int32)) v2).bind (fun r18 => if bI r18.1 = 0 then (bnd ((999 : Int32) + (1 : Int32)) (fun x23 => fX12_later_29 n k r18.2 v1 v2 v3 v4 x23)) else (bnd (v5 + (1 : Int32)) (fun x21 => fX12_later_29 n k r18.2 v1 v2 v3 v5 x21)))))))
set_option maxHeartbeats 4000000 in
theorem tX12_later_29 {p : Program} {l : Launch} {e : Env} {s : State} {m : MethodId} {args : Array Value} {below : List Frame} {meth : Method} {c : Code} {X : WX} (C : Amb 43 X p s m args meth c cX12_later 6 RX12) (hr : meth.sig.returnType = some .int) {R : Int32 × St} {n : Nat} : ∀ (k : Nat) (st : St) (v1 : Int32) (v2 : Int32) (v3 : Int32) (v4 : Int32) (v5 : Int32) (H : Heap) (locs : List Loc) (ls : Array Slot), Wd EM 43 X s.heap st H locs → lv_has ls 6 [(0, .ref (xq X 0)), (1, .int v1), (2, .int v2), (3, .int v3), (4, .int v4), (5, .int v5)] → fX12_later_29 n k st v1 v2 v3 v4 v5 = some R → W p l e { frames := 6, cells := 0, slots := 0, locals := 142 } s m args below meth c H locs 0 0 (QI EM 43 X R.1 R.2 below args s) (F0 m 29 ls []) := by
  obtain ⟨hx, hb, hml, hown, hts⟩ := id C.1
  intro k
  induction k with
  | zero => intro st v1 v2 v3 v4 v5 H locs ls  hw hl hf; exact absurd (show none = some R from hf) (fun z => by cases z)
  | succ k ih =>
    intro st v1 v2 v3 v4 v5 H locs ls  hw hl hf
    rw [fX12_later_29] at hf
    refine lv_iload hx hb dX12_later_29 (lv_at hl 5 rfl) ?_
    refine lv_bipush (v := 99) hx hb dX12_later_31 (by decide) ?_
    refine lv_icmp_gt (tgt := 86) hx hb dX12_later_33 (by decide) (fun c7 => ?_) (fun c7 => ?_)
    · replace hf := ite_t hf c7
      refine lv_aload_n hx hb dX12_later_86 rfl (lv_at hl 0 rfl) ?_
      refine w_get (T := TX12) C hw (by decide) 15 kf_X12_43 (EM_0 X _ _) rfl inA12 (by decide) rfl dX12_later_87 ?_
      refine lv_iload_n hx hb dX12_later_90 rfl (lv_at hl 2 rfl) ?_
      refine lv_iload_n hx hb dX12_later_91 rfl (lv_at hl 3 rfl) ?_
      obtain ⟨h8, hf⟩ := gd_some hf
      obtain ⟨st9, es10⟩ : ∃ z : St, z = sI st 12 v2.toNatClampNeg v3 := ⟨_, rfl⟩
      replace hf := bnd_nm hf es10
      refine w_iast C hw (by decide) (fun f9 => EM_12 X f9 _) h8 rfl dX12_later_92 (fun H locs hw => ?_)
      rw [← es10] at hw
      refine lv_iload hx hb dX12_later_93 (lv_at hl 4 rfl) ?_
      exact w_iret C hw hr (so2 hf).1 (so2 hf).2 dX12_later_95
    · replace hf := ite_f hf c7
      refine lv_iload_n hx hb dX12_later_36 rfl (lv_at hl 3 rfl) ?_
      refine lv_iload hx hb dX12_later_37 (lv_at hl 5 rfl) ?_
      refine lv_iadd hx hb dX12_later_39 ?_
      refine lv_sipush (v := 999) hx hb dX12_later_40 (by decide) ?_
      refine lv_icmp_gt (tgt := 86) hx hb dX12_later_43 (by decide) (fun c11 => ?_) (fun c11 => ?_)
      · replace hf := ite_t hf c11
        refine lv_aload_n hx hb dX12_later_86 rfl (lv_at hl 0 rfl) ?_
        refine w_get (T := TX12) C hw (by decide) 15 kf_X12_43 (EM_0 X _ _) rfl inA12 (by decide) rfl dX12_later_87 ?_
        refine lv_iload_n hx hb dX12_later_90 rfl (lv_at hl 2 rfl) ?_
        refine lv_iload_n hx hb dX12_later_91 rfl (lv_at hl 3 rfl) ?_
        obtain ⟨h12, hf⟩ := gd_some hf
        obtain ⟨st13, es14⟩ : ∃ z : St, z = sI st 12 v2.toNatClampNeg v3 := ⟨_, rfl⟩
        replace hf := bnd_nm hf es14
        refine w_iast C hw (by decide) (fun f9 => EM_12 X f9 _) h12 rfl dX12_later_92 (fun H locs hw => ?_)
        rw [← es14] at hw
        refine lv_iload hx hb dX12_later_93 (lv_at hl 4 rfl) ?_
        exact w_iret C hw hr (so2 hf).1 (so2 hf).2 dX12_later_95
      · replace hf := ite_f hf c11
        refine lv_aload_n hx hb dX12_later_46 rfl (lv_at hl 0 rfl) ?_
        refine w_get (T := TX12) C hw (by decide) 15 kf_X12_43 (EM_0 X _ _) rfl inA12 (by decide) rfl dX12_later_47 ?_
        refine lv_iload_n hx hb dX12_later_50 rfl (lv_at hl 2 rfl) ?_
        refine lv_iload_n hx hb dX12_later_51 rfl (lv_at hl 3 rfl) ?_
        refine lv_iload hx hb dX12_later_52 (lv_at hl 5 rfl) ?_
        refine lv_iadd hx hb dX12_later_54 ?_
        obtain ⟨h15, hf⟩ := gd_some hf
        obtain ⟨st16, es17⟩ : ∃ z : St, z = sI st 12 v2.toNatClampNeg (v3 + v5) := ⟨_, rfl⟩
        replace hf := bnd_nm hf es17
        refine w_iast C hw (by decide) (fun f9 => EM_12 X f9 _) h15 rfl dX12_later_55 (fun H locs hw => ?_)
        rw [← es17] at hw
        refine lv_aload_n hx hb dX12_later_56 rfl (lv_at hl 0 rfl) ?_
        refine lv_iload_n hx hb dX12_later_57 rfl (lv_at hl 1 rfl) ?_
        refine lv_bipush (v := 100) hx hb dX12_later_58 (by decide) ?_
        refine lv_idiv hx hb dX12_later_60 (by decide) ?_
        refine lv_iload_n hx hb dX12_later_61 rfl (lv_at hl 2 rfl) ?_
        obtain ⟨r18, k19, hf⟩ := bd_some hf
        refine w_goI hw (w_runV (rest := []) C hw (zX12_hasIt _ _ n st16 (v1 / (100 : Int32)) v2 r18 k19) (by decide) (EM_0 X _ _) rfl km_X12_352 ki_yX12_hasIt kv_X12_hasIt kz_X12 kc_X12_hasIt rfl ok_yX12_hasIt ⟨Nat.le_of_ble_eq_true rfl, Nat.le_of_ble_eq_true rfl⟩ rfl rfl rfl rfl hl.1 (Nat.le_of_ble_eq_true rfl) dX12_later_62 ⟨Nat.zero_le _, Nat.zero_le _⟩) (fun H locs hw => ?_)
        refine lv_if_ne (tgt := 76) hx hb dX12_later_65 (by decide) (fun c20 => ?_) (fun c20 => ?_)
        · replace hf := ite_f hf c20
          refine lv_iload hx hb dX12_later_76 (lv_at hl 5 rfl) ?_
          refine lv_istore (lv' := [(4, .int v5), (0, .ref (xq X 0)), (1, .int v1), (2, .int v2), (3, .int v3), (5, .int v5)]) hx hb dX12_later_78 hl (by decide) rfl (fun ls hl => ?_)
          obtain ⟨x21, e22⟩ : ∃ z : Int32, z = v5 + (1 : Int32) := ⟨_, rfl⟩
          replace hf := bnd_nm hf e22
          refine lv_iinc (v := x21) (lv' := [(5, .int x21), (4, .int v5), (0, .ref (xq X 0)), (1, .int v1), (2, .int v2), (3, .int v3)]) hx hb dX12_later_80 hl (k := 5) rfl (by rw [e22]; rfl) (by decide) rfl (fun ls hl => ?_)
          refine lv_goto (tgt := 29) hx hb dX12_later_83 (by decide) ?_
          exact ih r18.2 v1 v2 v3 v5 x21 _ _ _ hw (lv_sub hl [2, 3, 4, 5, 1, 0] rfl) hf
        · replace hf := ite_t hf c20
          refine lv_sipush (v := 999) hx hb dX12_later_68 (by decide) ?_
          refine lv_istore (lv' := [(5, .int (999 : Int32)), (0, .ref (xq X 0)), (1, .int v1), (2, .int v2), (3, .int v3), (4, .int v4)]) hx hb dX12_later_71 hl (by decide) rfl (fun ls hl => ?_)
          refine lv_goto (tgt := 80) hx hb dX12_later_73 (by decide) ?_
          obtain ⟨x23, e24⟩ : ∃ z : Int32, z = (999 : Int32) + (1 : Int32) := ⟨_, rfl⟩
          replace hf := bnd_nm hf e24
          refine lv_iinc (v := x23) (lv' := [(5, .int x23), (0, .ref (xq X 0)), (1, .int v1), (2, .int v2), (3, .int v3), (4, .int v4)]) hx hb dX12_later_80 hl (k := 0) rfl (by rw [e24]; rfl) (by decide) rfl (fun ls hl => ?_)
          refine lv_goto (tgt := 29) hx hb dX12_later_83 (by decide) ?_
          exact ih r18.2 v1 v2 v3 v4 x23 _ _ _ hw (lv_sub hl [1, 2, 3, 4, 5, 0] rfl) hf
def fX12_later (n : Nat) (st : St) (a1 : Int32) : Option (Int32 × St) := if bI (fX12_areFallCry st a1) = 0 then (some ((-1 : Int32), st)) else (bnd (rmI a1 (100 : Int32)) (fun x2 => gd (inB x2 13) (bnd (gI st 12 x2.toNatClampNeg) (fun x5 => fX12_later_29 n n st a1 x2 x5 (-2 : Int32) (0 : Int32)))))
set_option maxHeartbeats 4000000 in
theorem zX12_later (l : Launch) (X : WX) (n : Nat) (st : St) (a1 : Int32) (R : Int32 × St) (hf : fX12_later n st a1 = some R) : CtI l yX12_later cX12_later 6 .int ({ frames := 6, cells := 0, slots := 0, locals := 142 }) EM 43 X [.ref (xq X 0), .int a1] st R.1 R.2 := by
  refine ct_in (own := RX12) (by decide +kernel) rfl (Nat.le_of_ble_eq_true rfl) (fun p e s m below meth c C hr hw ls hl => ?_)
  obtain ⟨hx, hb, hml, hown, hts⟩ := id C.1
  have hl : lv_has ls 6 [(0, .ref (xq X 0)), (1, .int a1)] := hl
  unfold fX12_later at hf
  refine lv_aload_n hx hb dX12_later_0 rfl (lv_at hl 0 rfl) ?_
  refine lv_iload_n hx hb dX12_later_1 rfl (lv_at hl 1 rfl) ?_
  refine w_goI hw (w_runV (rest := []) C hw (zX12_areFallCry _ _ st a1) (by decide) (EM_0 X _ _) rfl km_X12_349 ki_yX12_areFallCry kv_X12_areFallCry kz_X12 kc_X12_areFallCry rfl ok_yX12_areFallCry ⟨Nat.le_of_ble_eq_true rfl, Nat.le_of_ble_eq_true rfl⟩ rfl rfl rfl rfl hl.1 (Nat.le_of_ble_eq_true rfl) dX12_later_2 ⟨Nat.zero_le _, Nat.zero_le _⟩) (fun H locs hw => ?_)
  refine lv_if_ne (tgt := 10) hx hb dX12_later_5 (by decide) (fun c1 => ?_) (fun c1 => ?_)
  · replace hf := ite_f hf c1
    refine lv_iload_n hx hb dX12_later_10 rfl (lv_at hl 1 rfl) ?_
    refine lv_bipush (v := 100) hx hb dX12_later_11 (by decide) ?_
    refine w_irem C (by decide) dX12_later_13 ?_
    refine lv_topi (fun x2 e3 => ?_)
    replace hf := bnd_nm hf e3
    refine lv_istore_n (lv' := [(2, .int x2), (0, .ref (xq X 0)), (1, .int a1)]) hx hb dX12_later_14 rfl hl (by decide) rfl (fun ls hl => ?_)
    refine lv_aload_n hx hb dX12_later_15 rfl (lv_at hl 1 rfl) ?_
    refine w_get (T := TX12) C hw (by decide) 15 kf_X12_43 (EM_0 X _ _) rfl inA12 (by decide) rfl dX12_later_16 ?_
    refine lv_iload_n hx hb dX12_later_19 rfl (lv_at hl 0 rfl) ?_
    obtain ⟨h4, hf⟩ := gd_some hf
    refine w_iald C hw (by decide) (EM_12 X _ _) h4 rfl dX12_later_20 ?_
    refine lv_topi (fun x5 e6 => ?_)
    replace hf := bnd_nm hf e6
    refine lv_istore_n (lv' := [(3, .int x5), (2, .int x2), (0, .ref (xq X 0)), (1, .int a1)]) hx hb dX12_later_21 rfl hl (by decide) rfl (fun ls hl => ?_)
    refine lv_bipush (v := -2) hx hb dX12_later_22 (by decide) ?_
    refine lv_istore (lv' := [(4, .int (-2 : Int32)), (3, .int x5), (2, .int x2), (0, .ref (xq X 0)), (1, .int a1)]) hx hb dX12_later_24 hl (by decide) rfl (fun ls hl => ?_)
    refine lv_iconst (v := 0) hx hb dX12_later_26 (by decide) ?_
    refine lv_istore (lv' := [(5, .int (0 : Int32)), (4, .int (-2 : Int32)), (3, .int x5), (2, .int x2), (0, .ref (xq X 0)), (1, .int a1)]) hx hb dX12_later_27 hl (by decide) rfl (fun ls hl => ?_)
    exact tX12_later_29 C hr n st a1 x2 x5 (-2 : Int32) (0 : Int32) _ _ _ hw (lv_sub hl [4, 5, 3, 2, 1, 0] rfl) hf
  · replace hf := ite_t hf c1
    refine lv_iconst (v := -1) hx hb dX12_later_8 (by decide) ?_
    exact w_iret C hw hr (so2 hf).1 (so2 hf).2 dX12_later_9
theorem dX12_louder_0 : decode cX12_louder 0 = .ok (.aload_n 0, 1) := by decide +kernel
theorem dX12_louder_1 : decode cX12_louder 1 = .ok (.iload_n 1, 1) := by decide +kernel
theorem dX12_louder_2 : decode cX12_louder 2 = .ok (.invokevirtual 349, 3) := by decide +kernel
theorem dX12_louder_5 : decode cX12_louder 5 = .ok (.ifCond .ne 5, 3) := by decide +kernel
theorem dX12_louder_8 : decode cX12_louder 8 = .ok (.iconst (-1), 1) := by decide +kernel
theorem dX12_louder_9 : decode cX12_louder 9 = .ok (.ireturn, 1) := by decide +kernel
theorem dX12_louder_10 : decode cX12_louder 10 = .ok (.iload_n 1, 1) := by decide +kernel
theorem dX12_louder_11 : decode cX12_louder 11 = .ok (.bipush 100, 2) := by decide +kernel
theorem dX12_louder_13 : decode cX12_louder 13 = .ok (.irem, 1) := by decide +kernel
theorem dX12_louder_14 : decode cX12_louder 14 = .ok (.istore_n 2, 1) := by decide +kernel
theorem dX12_louder_15 : decode cX12_louder 15 = .ok (.aload_n 0, 1) := by decide +kernel
theorem dX12_louder_16 : decode cX12_louder 16 = .ok (.getfield 49, 3) := by decide +kernel
theorem dX12_louder_19 : decode cX12_louder 19 = .ok (.iload_n 2, 1) := by decide +kernel
theorem dX12_louder_20 : decode cX12_louder 20 = .ok (.iaload, 1) := by decide +kernel
theorem dX12_louder_21 : decode cX12_louder 21 = .ok (.istore_n 3, 1) := by decide +kernel
theorem dX12_louder_22 : decode cX12_louder 22 = .ok (.bipush (-2), 2) := by decide +kernel
theorem dX12_louder_24 : decode cX12_louder 24 = .ok (.istore 4, 2) := by decide +kernel
theorem dX12_louder_26 : decode cX12_louder 26 = .ok (.iconst 0, 1) := by decide +kernel
theorem dX12_louder_27 : decode cX12_louder 27 = .ok (.istore 5, 2) := by decide +kernel
theorem dX12_louder_29 : decode cX12_louder 29 = .ok (.iload 5, 2) := by decide +kernel
theorem dX12_louder_31 : decode cX12_louder 31 = .ok (.bipush 9, 2) := by decide +kernel
theorem dX12_louder_33 : decode cX12_louder 33 = .ok (.if_icmp .gt 38, 3) := by decide +kernel
theorem dX12_louder_36 : decode cX12_louder 36 = .ok (.iload 4, 2) := by decide +kernel
theorem dX12_louder_38 : decode cX12_louder 38 = .ok (.ifCond .ge 33, 3) := by decide +kernel
theorem dX12_louder_41 : decode cX12_louder 41 = .ok (.aload_n 0, 1) := by decide +kernel
theorem dX12_louder_42 : decode cX12_louder 42 = .ok (.getfield 49, 3) := by decide +kernel
theorem dX12_louder_45 : decode cX12_louder 45 = .ok (.iload_n 2, 1) := by decide +kernel
theorem dX12_louder_46 : decode cX12_louder 46 = .ok (.iload 5, 2) := by decide +kernel
theorem dX12_louder_48 : decode cX12_louder 48 = .ok (.iastore, 1) := by decide +kernel
theorem dX12_louder_49 : decode cX12_louder 49 = .ok (.aload_n 0, 1) := by decide +kernel
theorem dX12_louder_50 : decode cX12_louder 50 = .ok (.iload_n 1, 1) := by decide +kernel
theorem dX12_louder_51 : decode cX12_louder 51 = .ok (.bipush 100, 2) := by decide +kernel
theorem dX12_louder_53 : decode cX12_louder 53 = .ok (.idiv, 1) := by decide +kernel
theorem dX12_louder_54 : decode cX12_louder 54 = .ok (.iload_n 2, 1) := by decide +kernel
theorem dX12_louder_55 : decode cX12_louder 55 = .ok (.invokevirtual 352, 3) := by decide +kernel
theorem dX12_louder_58 : decode cX12_louder 58 = .ok (.ifCond .eq 7, 3) := by decide +kernel
theorem dX12_louder_61 : decode cX12_louder 61 = .ok (.iload 5, 2) := by decide +kernel
theorem dX12_louder_63 : decode cX12_louder 63 = .ok (.istore 4, 2) := by decide +kernel
theorem dX12_louder_65 : decode cX12_louder 65 = .ok (.iinc 5 1, 3) := by decide +kernel
theorem dX12_louder_68 : decode cX12_louder 68 = .ok (.goto (-39), 3) := by decide +kernel
theorem dX12_louder_71 : decode cX12_louder 71 = .ok (.aload_n 0, 1) := by decide +kernel
theorem dX12_louder_72 : decode cX12_louder 72 = .ok (.getfield 49, 3) := by decide +kernel
theorem dX12_louder_75 : decode cX12_louder 75 = .ok (.iload_n 2, 1) := by decide +kernel
theorem dX12_louder_76 : decode cX12_louder 76 = .ok (.iload_n 3, 1) := by decide +kernel
theorem dX12_louder_77 : decode cX12_louder 77 = .ok (.iastore, 1) := by decide +kernel
theorem dX12_louder_78 : decode cX12_louder 78 = .ok (.iload 4, 2) := by decide +kernel
theorem dX12_louder_80 : decode cX12_louder 80 = .ok (.ireturn, 1) := by decide +kernel
theorem ok_yX12_louder : yOk yX12_louder 1 := ⟨by decide +kernel, by decide +kernel, by decide +kernel⟩
def fX12_louder_29 (n : Nat) : Nat → St → Int32 → Int32 → Int32 → Int32 → Int32 → Option (Int32 × St)
  | 0, _, _, _, _, _, _ => none
  | k + 1, st, v1, v2, v3, v4, v5 => if (9 : Int32) < v5 then (gd (inB v2 13) (bnd (sI st 14 v2.toNatClampNeg v3) (fun st9 => some (v4, st9)))) else (if 0 ≤ v4 then (gd (inB v2 13) (bnd (sI st 14 v2.toNatClampNeg v3) (fun st13 => some (v4, st13)))) else (gd (inB v2 13) (bnd (sI st 14 v2.toNatClampNeg v5) (fun st16 => (fX12_hasIt n st16 (v1 / (100 : Int32)) v2).bind (fun r18 => if bI r18.1 = 0 then (bnd (v5 + (1 : Int32)) (fun x21 => fX12_louder_29 n k r18.2 v1 v2 v3 v4 x21)) else (bnd (v5 + (1 : Int32)) (fun x23 => fX12_louder_29 n k r18.2 v1 v2 v3 v5 x23)))))))
set_option maxHeartbeats 4000000 in
theorem tX12_louder_29 {p : Program} {l : Launch} {e : Env} {s : State} {m : MethodId} {args : Array Value} {below : List Frame} {meth : Method} {c : Code} {X : WX} (C : Amb 43 X p s m args meth c cX12_louder 6 RX12) (hr : meth.sig.returnType = some .int) {R : Int32 × St} {n : Nat} : ∀ (k : Nat) (st : St) (v1 : Int32) (v2 : Int32) (v3 : Int32) (v4 : Int32) (v5 : Int32) (H : Heap) (locs : List Loc) (ls : Array Slot), Wd EM 43 X s.heap st H locs → lv_has ls 6 [(0, .ref (xq X 0)), (1, .int v1), (2, .int v2), (3, .int v3), (4, .int v4), (5, .int v5)] → fX12_louder_29 n k st v1 v2 v3 v4 v5 = some R → W p l e { frames := 6, cells := 0, slots := 0, locals := 142 } s m args below meth c H locs 0 0 (QI EM 43 X R.1 R.2 below args s) (F0 m 29 ls []) := by
  obtain ⟨hx, hb, hml, hown, hts⟩ := id C.1
  intro k
  induction k with
  | zero => intro st v1 v2 v3 v4 v5 H locs ls  hw hl hf; exact absurd (show none = some R from hf) (fun z => by cases z)
  | succ k ih =>
    intro st v1 v2 v3 v4 v5 H locs ls  hw hl hf
    rw [fX12_louder_29] at hf
    refine lv_iload hx hb dX12_louder_29 (lv_at hl 5 rfl) ?_
    refine lv_bipush (v := 9) hx hb dX12_louder_31 (by decide) ?_
    refine lv_icmp_gt (tgt := 71) hx hb dX12_louder_33 (by decide) (fun c7 => ?_) (fun c7 => ?_)
    · replace hf := ite_t hf c7
      refine lv_aload_n hx hb dX12_louder_71 rfl (lv_at hl 0 rfl) ?_
      refine w_get (T := TX12) C hw (by decide) 17 kf_X12_49 (EM_0 X _ _) rfl inA12 (by decide) rfl dX12_louder_72 ?_
      refine lv_iload_n hx hb dX12_louder_75 rfl (lv_at hl 2 rfl) ?_
      refine lv_iload_n hx hb dX12_louder_76 rfl (lv_at hl 3 rfl) ?_
      obtain ⟨h8, hf⟩ := gd_some hf
      obtain ⟨st9, es10⟩ : ∃ z : St, z = sI st 14 v2.toNatClampNeg v3 := ⟨_, rfl⟩
      replace hf := bnd_nm hf es10
      refine w_iast C hw (by decide) (fun f9 => EM_14 X f9 _) h8 rfl dX12_louder_77 (fun H locs hw => ?_)
      rw [← es10] at hw
      refine lv_iload hx hb dX12_louder_78 (lv_at hl 4 rfl) ?_
      exact w_iret C hw hr (so2 hf).1 (so2 hf).2 dX12_louder_80
    · replace hf := ite_f hf c7
      refine lv_iload hx hb dX12_louder_36 (lv_at hl 4 rfl) ?_
      refine lv_if_ge (tgt := 71) hx hb dX12_louder_38 (by decide) (fun c11 => ?_) (fun c11 => ?_)
      · replace hf := ite_t hf c11
        refine lv_aload_n hx hb dX12_louder_71 rfl (lv_at hl 0 rfl) ?_
        refine w_get (T := TX12) C hw (by decide) 17 kf_X12_49 (EM_0 X _ _) rfl inA12 (by decide) rfl dX12_louder_72 ?_
        refine lv_iload_n hx hb dX12_louder_75 rfl (lv_at hl 2 rfl) ?_
        refine lv_iload_n hx hb dX12_louder_76 rfl (lv_at hl 3 rfl) ?_
        obtain ⟨h12, hf⟩ := gd_some hf
        obtain ⟨st13, es14⟩ : ∃ z : St, z = sI st 14 v2.toNatClampNeg v3 := ⟨_, rfl⟩
        replace hf := bnd_nm hf es14
        refine w_iast C hw (by decide) (fun f9 => EM_14 X f9 _) h12 rfl dX12_louder_77 (fun H locs hw => ?_)
        rw [← es14] at hw
        refine lv_iload hx hb dX12_louder_78 (lv_at hl 4 rfl) ?_
        exact w_iret C hw hr (so2 hf).1 (so2 hf).2 dX12_louder_80
      · replace hf := ite_f hf c11
        refine lv_aload_n hx hb dX12_louder_41 rfl (lv_at hl 0 rfl) ?_
        refine w_get (T := TX12) C hw (by decide) 17 kf_X12_49 (EM_0 X _ _) rfl inA12 (by decide) rfl dX12_louder_42 ?_
        refine lv_iload_n hx hb dX12_louder_45 rfl (lv_at hl 2 rfl) ?_
        refine lv_iload hx hb dX12_louder_46 (lv_at hl 5 rfl) ?_
        obtain ⟨h15, hf⟩ := gd_some hf
        obtain ⟨st16, es17⟩ : ∃ z : St, z = sI st 14 v2.toNatClampNeg v5 := ⟨_, rfl⟩
        replace hf := bnd_nm hf es17
        refine w_iast C hw (by decide) (fun f9 => EM_14 X f9 _) h15 rfl dX12_louder_48 (fun H locs hw => ?_)
        rw [← es17] at hw
        refine lv_aload_n hx hb dX12_louder_49 rfl (lv_at hl 0 rfl) ?_
        refine lv_iload_n hx hb dX12_louder_50 rfl (lv_at hl 1 rfl) ?_
        refine lv_bipush (v := 100) hx hb dX12_louder_51 (by decide) ?_
        refine lv_idiv hx hb dX12_louder_53 (by decide) ?_
        refine lv_iload_n hx hb dX12_louder_54 rfl (lv_at hl 2 rfl) ?_
        obtain ⟨r18, k19, hf⟩ := bd_some hf
        refine w_goI hw (w_runV (rest := []) C hw (zX12_hasIt _ _ n st16 (v1 / (100 : Int32)) v2 r18 k19) (by decide) (EM_0 X _ _) rfl km_X12_352 ki_yX12_hasIt kv_X12_hasIt kz_X12 kc_X12_hasIt rfl ok_yX12_hasIt ⟨Nat.le_of_ble_eq_true rfl, Nat.le_of_ble_eq_true rfl⟩ rfl rfl rfl rfl hl.1 (Nat.le_of_ble_eq_true rfl) dX12_louder_55 ⟨Nat.zero_le _, Nat.zero_le _⟩) (fun H locs hw => ?_)
        refine lv_if_eq (tgt := 65) hx hb dX12_louder_58 (by decide) (fun c20 => ?_) (fun c20 => ?_)
        · replace hf := ite_t hf c20
          obtain ⟨x21, e22⟩ : ∃ z : Int32, z = v5 + (1 : Int32) := ⟨_, rfl⟩
          replace hf := bnd_nm hf e22
          refine lv_iinc (v := x21) (lv' := [(5, .int x21), (0, .ref (xq X 0)), (1, .int v1), (2, .int v2), (3, .int v3), (4, .int v4)]) hx hb dX12_louder_65 hl (k := 5) rfl (by rw [e22]; rfl) (by decide) rfl (fun ls hl => ?_)
          refine lv_goto (tgt := 29) hx hb dX12_louder_68 (by decide) ?_
          exact ih r18.2 v1 v2 v3 v4 x21 _ _ _ hw (lv_sub hl [1, 2, 3, 4, 5, 0] rfl) hf
        · replace hf := ite_f hf c20
          refine lv_iload hx hb dX12_louder_61 (lv_at hl 5 rfl) ?_
          refine lv_istore (lv' := [(4, .int v5), (0, .ref (xq X 0)), (1, .int v1), (2, .int v2), (3, .int v3), (5, .int v5)]) hx hb dX12_louder_63 hl (by decide) rfl (fun ls hl => ?_)
          obtain ⟨x23, e24⟩ : ∃ z : Int32, z = v5 + (1 : Int32) := ⟨_, rfl⟩
          replace hf := bnd_nm hf e24
          refine lv_iinc (v := x23) (lv' := [(5, .int x23), (4, .int v5), (0, .ref (xq X 0)), (1, .int v1), (2, .int v2), (3, .int v3)]) hx hb dX12_louder_65 hl (k := 5) rfl (by rw [e24]; rfl) (by decide) rfl (fun ls hl => ?_)
          refine lv_goto (tgt := 29) hx hb dX12_louder_68 (by decide) ?_
          exact ih r18.2 v1 v2 v3 v5 x23 _ _ _ hw (lv_sub hl [2, 3, 4, 5, 1, 0] rfl) hf
def fX12_louder (n : Nat) (st : St) (a1 : Int32) : Option (Int32 × St) := if bI (fX12_areFallCry st a1) = 0 then (some ((-1 : Int32), st)) else (bnd (rmI a1 (100 : Int32)) (fun x2 => gd (inB x2 13) (bnd (gI st 14 x2.toNatClampNeg) (fun x5 => fX12_louder_29 n n st a1 x2 x5 (-2 : Int32) (0 : Int32)))))
set_option maxHeartbeats 4000000 in
theorem zX12_louder (l : Launch) (X : WX) (n : Nat) (st : St) (a1 : Int32) (R : Int32 × St) (hf : fX12_louder n st a1 = some R) : CtI l yX12_louder cX12_louder 6 .int ({ frames := 6, cells := 0, slots := 0, locals := 142 }) EM 43 X [.ref (xq X 0), .int a1] st R.1 R.2 := by
  refine ct_in (own := RX12) (by decide +kernel) rfl (Nat.le_of_ble_eq_true rfl) (fun p e s m below meth c C hr hw ls hl => ?_)
  obtain ⟨hx, hb, hml, hown, hts⟩ := id C.1
  have hl : lv_has ls 6 [(0, .ref (xq X 0)), (1, .int a1)] := hl
  unfold fX12_louder at hf
  refine lv_aload_n hx hb dX12_louder_0 rfl (lv_at hl 0 rfl) ?_
  refine lv_iload_n hx hb dX12_louder_1 rfl (lv_at hl 1 rfl) ?_
  refine w_goI hw (w_runV (rest := []) C hw (zX12_areFallCry _ _ st a1) (by decide) (EM_0 X _ _) rfl km_X12_349 ki_yX12_areFallCry kv_X12_areFallCry kz_X12 kc_X12_areFallCry rfl ok_yX12_areFallCry ⟨Nat.le_of_ble_eq_true rfl, Nat.le_of_ble_eq_true rfl⟩ rfl rfl rfl rfl hl.1 (Nat.le_of_ble_eq_true rfl) dX12_louder_2 ⟨Nat.zero_le _, Nat.zero_le _⟩) (fun H locs hw => ?_)
  refine lv_if_ne (tgt := 10) hx hb dX12_louder_5 (by decide) (fun c1 => ?_) (fun c1 => ?_)
  · replace hf := ite_f hf c1
    refine lv_iload_n hx hb dX12_louder_10 rfl (lv_at hl 1 rfl) ?_
    refine lv_bipush (v := 100) hx hb dX12_louder_11 (by decide) ?_
    refine w_irem C (by decide) dX12_louder_13 ?_
    refine lv_topi (fun x2 e3 => ?_)
    replace hf := bnd_nm hf e3
    refine lv_istore_n (lv' := [(2, .int x2), (0, .ref (xq X 0)), (1, .int a1)]) hx hb dX12_louder_14 rfl hl (by decide) rfl (fun ls hl => ?_)
    refine lv_aload_n hx hb dX12_louder_15 rfl (lv_at hl 1 rfl) ?_
    refine w_get (T := TX12) C hw (by decide) 17 kf_X12_49 (EM_0 X _ _) rfl inA12 (by decide) rfl dX12_louder_16 ?_
    refine lv_iload_n hx hb dX12_louder_19 rfl (lv_at hl 0 rfl) ?_
    obtain ⟨h4, hf⟩ := gd_some hf
    refine w_iald C hw (by decide) (EM_14 X _ _) h4 rfl dX12_louder_20 ?_
    refine lv_topi (fun x5 e6 => ?_)
    replace hf := bnd_nm hf e6
    refine lv_istore_n (lv' := [(3, .int x5), (2, .int x2), (0, .ref (xq X 0)), (1, .int a1)]) hx hb dX12_louder_21 rfl hl (by decide) rfl (fun ls hl => ?_)
    refine lv_bipush (v := -2) hx hb dX12_louder_22 (by decide) ?_
    refine lv_istore (lv' := [(4, .int (-2 : Int32)), (3, .int x5), (2, .int x2), (0, .ref (xq X 0)), (1, .int a1)]) hx hb dX12_louder_24 hl (by decide) rfl (fun ls hl => ?_)
    refine lv_iconst (v := 0) hx hb dX12_louder_26 (by decide) ?_
    refine lv_istore (lv' := [(5, .int (0 : Int32)), (4, .int (-2 : Int32)), (3, .int x5), (2, .int x2), (0, .ref (xq X 0)), (1, .int a1)]) hx hb dX12_louder_27 hl (by decide) rfl (fun ls hl => ?_)
    exact tX12_louder_29 C hr n st a1 x2 x5 (-2 : Int32) (0 : Int32) _ _ _ hw (lv_sub hl [4, 5, 3, 2, 1, 0] rfl) hf
  · replace hf := ite_t hf c1
    refine lv_iconst (v := -1) hx hb dX12_louder_8 (by decide) ?_
    exact w_iret C hw hr (so2 hf).1 (so2 hf).2 dX12_louder_9
