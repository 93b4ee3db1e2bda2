theorem dX4_ofTwo_0 : decode cX4_ofTwo 0 = .ok (.iload_n 0, 1) := by decide +kernel
theorem dX4_ofTwo_1 : decode cX4_ofTwo 1 = .ok (.tableswitch 136 (-15) (-7) #[124, 120, 116, 112, 101, 90, 79, 65, 51], 51) := by decide +kernel
theorem dX4_ofTwo_52 : decode cX4_ofTwo 52 = .ok (.iload_n 1, 1) := by decide +kernel
theorem dX4_ofTwo_53 : decode cX4_ofTwo 53 = .ok (.ifCond .ne 7, 3) := by decide +kernel
theorem dX4_ofTwo_56 : decode cX4_ofTwo 56 = .ok (.iload_n 2, 1) := by decide +kernel
theorem dX4_ofTwo_57 : decode cX4_ofTwo 57 = .ok (.ifCond .eq 7, 3) := by decide +kernel
theorem dX4_ofTwo_60 : decode cX4_ofTwo 60 = .ok (.iconst 1, 1) := by decide +kernel
theorem dX4_ofTwo_61 : decode cX4_ofTwo 61 = .ok (.goto 4, 3) := by decide +kernel
theorem dX4_ofTwo_64 : decode cX4_ofTwo 64 = .ok (.iconst 0, 1) := by decide +kernel
theorem dX4_ofTwo_65 : decode cX4_ofTwo 65 = .ok (.ireturn, 1) := by decide +kernel
theorem dX4_ofTwo_66 : decode cX4_ofTwo 66 = .ok (.iload_n 1, 1) := by decide +kernel
theorem dX4_ofTwo_67 : decode cX4_ofTwo 67 = .ok (.ifCond .eq 11, 3) := by decide +kernel
theorem dX4_ofTwo_70 : decode cX4_ofTwo 70 = .ok (.iload_n 2, 1) := by decide +kernel
theorem dX4_ofTwo_71 : decode cX4_ofTwo 71 = .ok (.ifCond .eq 7, 3) := by decide +kernel
theorem dX4_ofTwo_74 : decode cX4_ofTwo 74 = .ok (.iconst 1, 1) := by decide +kernel
theorem dX4_ofTwo_75 : decode cX4_ofTwo 75 = .ok (.goto 4, 3) := by decide +kernel
theorem dX4_ofTwo_78 : decode cX4_ofTwo 78 = .ok (.iconst 0, 1) := by decide +kernel
theorem dX4_ofTwo_79 : decode cX4_ofTwo 79 = .ok (.ireturn, 1) := by decide +kernel
theorem dX4_ofTwo_80 : decode cX4_ofTwo 80 = .ok (.iload_n 1, 1) := by decide +kernel
theorem dX4_ofTwo_81 : decode cX4_ofTwo 81 = .ok (.iload_n 2, 1) := by decide +kernel
theorem dX4_ofTwo_82 : decode cX4_ofTwo 82 = .ok (.if_icmp .ge 7, 3) := by decide +kernel
theorem dX4_ofTwo_85 : decode cX4_ofTwo 85 = .ok (.iconst 1, 1) := by decide +kernel
theorem dX4_ofTwo_86 : decode cX4_ofTwo 86 = .ok (.goto 4, 3) := by decide +kernel
theorem dX4_ofTwo_89 : decode cX4_ofTwo 89 = .ok (.iconst 0, 1) := by decide +kernel
theorem dX4_ofTwo_90 : decode cX4_ofTwo 90 = .ok (.ireturn, 1) := by decide +kernel
theorem dX4_ofTwo_91 : decode cX4_ofTwo 91 = .ok (.iload_n 1, 1) := by decide +kernel
theorem dX4_ofTwo_92 : decode cX4_ofTwo 92 = .ok (.iload_n 2, 1) := by decide +kernel
theorem dX4_ofTwo_93 : decode cX4_ofTwo 93 = .ok (.if_icmp .ne 7, 3) := by decide +kernel
theorem dX4_ofTwo_96 : decode cX4_ofTwo 96 = .ok (.iconst 1, 1) := by decide +kernel
theorem dX4_ofTwo_97 : decode cX4_ofTwo 97 = .ok (.goto 4, 3) := by decide +kernel
theorem dX4_ofTwo_100 : decode cX4_ofTwo 100 = .ok (.iconst 0, 1) := by decide +kernel
theorem dX4_ofTwo_101 : decode cX4_ofTwo 101 = .ok (.ireturn, 1) := by decide +kernel
theorem dX4_ofTwo_102 : decode cX4_ofTwo 102 = .ok (.iload_n 1, 1) := by decide +kernel
theorem dX4_ofTwo_103 : decode cX4_ofTwo 103 = .ok (.iload_n 2, 1) := by decide +kernel
theorem dX4_ofTwo_104 : decode cX4_ofTwo 104 = .ok (.if_icmp .le 7, 3) := by decide +kernel
theorem dX4_ofTwo_107 : decode cX4_ofTwo 107 = .ok (.iconst 1, 1) := by decide +kernel
theorem dX4_ofTwo_108 : decode cX4_ofTwo 108 = .ok (.goto 4, 3) := by decide +kernel
theorem dX4_ofTwo_111 : decode cX4_ofTwo 111 = .ok (.iconst 0, 1) := by decide +kernel
theorem dX4_ofTwo_112 : decode cX4_ofTwo 112 = .ok (.ireturn, 1) := by decide +kernel
theorem dX4_ofTwo_113 : decode cX4_ofTwo 113 = .ok (.iload_n 1, 1) := by decide +kernel
theorem dX4_ofTwo_114 : decode cX4_ofTwo 114 = .ok (.iload_n 2, 1) := by decide +kernel
theorem dX4_ofTwo_115 : decode cX4_ofTwo 115 = .ok (.iadd, 1) := by decide +kernel
theorem dX4_ofTwo_116 : decode cX4_ofTwo 116 = .ok (.ireturn, 1) := by decide +kernel
theorem dX4_ofTwo_117 : decode cX4_ofTwo 117 = .ok (.iload_n 1, 1) := by decide +kernel
theorem dX4_ofTwo_118 : decode cX4_ofTwo 118 = .ok (.iload_n 2, 1) := by decide +kernel
theorem dX4_ofTwo_119 : decode cX4_ofTwo 119 = .ok (.isub, 1) := by decide +kernel
theorem dX4_ofTwo_120 : decode cX4_ofTwo 120 = .ok (.ireturn, 1) := by decide +kernel
theorem dX4_ofTwo_121 : decode cX4_ofTwo 121 = .ok (.iload_n 1, 1) := by decide +kernel
theorem dX4_ofTwo_122 : decode cX4_ofTwo 122 = .ok (.iload_n 2, 1) := by decide +kernel
theorem dX4_ofTwo_123 : decode cX4_ofTwo 123 = .ok (.imul, 1) := by decide +kernel
theorem dX4_ofTwo_124 : decode cX4_ofTwo 124 = .ok (.ireturn, 1) := by decide +kernel
theorem dX4_ofTwo_125 : decode cX4_ofTwo 125 = .ok (.iload_n 2, 1) := by decide +kernel
theorem dX4_ofTwo_126 : decode cX4_ofTwo 126 = .ok (.ifCond .ne 7, 3) := by decide +kernel
theorem dX4_ofTwo_129 : decode cX4_ofTwo 129 = .ok (.iconst 0, 1) := by decide +kernel
theorem dX4_ofTwo_130 : decode cX4_ofTwo 130 = .ok (.goto 6, 3) := by decide +kernel
theorem dX4_ofTwo_133 : decode cX4_ofTwo 133 = .ok (.iload_n 1, 1) := by decide +kernel
theorem dX4_ofTwo_134 : decode cX4_ofTwo 134 = .ok (.iload_n 2, 1) := by decide +kernel
theorem dX4_ofTwo_135 : decode cX4_ofTwo 135 = .ok (.idiv, 1) := by decide +kernel
theorem dX4_ofTwo_136 : decode cX4_ofTwo 136 = .ok (.ireturn, 1) := by decide +kernel
theorem dX4_ofTwo_137 : decode cX4_ofTwo 137 = .ok (.iload_n 2, 1) := by decide +kernel
theorem dX4_ofTwo_138 : decode cX4_ofTwo 138 = .ok (.ifCond .ne 7, 3) := by decide +kernel
theorem dX4_ofTwo_141 : decode cX4_ofTwo 141 = .ok (.iconst 0, 1) := by decide +kernel
theorem dX4_ofTwo_142 : decode cX4_ofTwo 142 = .ok (.goto 6, 3) := by decide +kernel
theorem dX4_ofTwo_145 : decode cX4_ofTwo 145 = .ok (.iload_n 1, 1) := by decide +kernel
theorem dX4_ofTwo_146 : decode cX4_ofTwo 146 = .ok (.iload_n 2, 1) := by decide +kernel
theorem dX4_ofTwo_147 : decode cX4_ofTwo 147 = .ok (.irem, 1) := by decide +kernel
theorem dX4_ofTwo_148 : decode cX4_ofTwo 148 = .ok (.ireturn, 1) := by decide +kernel
theorem ok_yX4_ofTwo : yOk yX4_ofTwo 3 := ⟨by decide +kernel, by decide +kernel, by decide +kernel⟩
def fX4_ofTwo (a0 : Int32) (a1 : Int32) (a2 : Int32) : Int32 := if a0 = -15 then (if a2 = 0 then ((0 : Int32)) else ((a1 / a2))) else (if a0 = -14 then ((a1 * a2)) else (if a0 = -13 then ((a1 - a2)) else (if a0 = -12 then ((a1 + a2)) else (if a0 = -11 then (if a1 ≤ a2 then ((0 : Int32)) else ((1 : Int32))) else (if a0 = -10 then (if a1 = a2 then ((1 : Int32)) else ((0 : Int32))) else (if a0 = -9 then (if a2 ≤ a1 then ((0 : Int32)) else ((1 : Int32))) else (if a0 = -8 then (if a1 = 0 then ((0 : Int32)) else (if a2 = 0 then ((0 : Int32)) else ((1 : Int32)))) else (if a0 = -7 then (if a1 = 0 then (if a2 = 0 then ((0 : Int32)) else ((1 : Int32))) else ((1 : Int32))) else (if a2 = 0 then ((0 : Int32)) else ((rmI a1 a2)))))))))))
set_option maxHeartbeats 4000000 in
theorem zX4_ofTwo (l : Launch) (X : WX) (st : St) (a0 : Int32) (a1 : Int32) (a2 : Int32) : CtI l yX4_ofTwo cX4_ofTwo 3 .int ({ frames := 0, cells := 0, slots := 0, locals := 0 }) EC 65 X [.int a0, .int a1, .int a2] st (fX4_ofTwo a0 a1 a2) st := by
  generalize hf : fX4_ofTwo a0 a1 a2 = R
  refine ct_in (own := RX4) (by decide +kernel) rfl (Nat.le_of_ble_eq_true rfl) (fun p e s m below meth c C hr hw ls hl => ?_)
  obtain ⟨hx, hb, hml, hown, hts⟩ := id C.1
  have hl : lv_has ls 3 [(0, .int a0), (1, .int a1), (2, .int a2)] := hl
  unfold fX4_ofTwo at hf
  refine lv_iload_n hx hb dX4_ofTwo_0 rfl (lv_at hl 0 rfl) ?_
  by_cases c1 : a0 = -15
  · replace hf := ite_t hf c1
    refine lv_tableIn (tgt := 125) hx hb dX4_ofTwo_1 (by rw [c1]; decide) (by rw [c1]; decide) (by rw [c1]; rfl) (by decide) ?_
    refine lv_iload_n hx hb dX4_ofTwo_125 rfl (lv_at hl 2 rfl) ?_
    refine lv_if_ne (tgt := 133) hx hb dX4_ofTwo_126 (by decide) (fun c2 => ?_) (fun c2 => ?_)
    · replace hf := ite_f hf c2
      refine lv_iload_n hx hb dX4_ofTwo_133 rfl (lv_at hl 1 rfl) ?_
      refine lv_iload_n hx hb dX4_ofTwo_134 rfl (lv_at hl 2 rfl) ?_
      refine lv_idiv hx hb dX4_ofTwo_135 c2 ?_
      exact w_iret C hw hr hf rfl dX4_ofTwo_136
    · replace hf := ite_t hf c2
      refine lv_iconst (v := 0) hx hb dX4_ofTwo_129 (by decide) ?_
      refine lv_goto (tgt := 136) hx hb dX4_ofTwo_130 (by decide) ?_
      exact w_iret C hw hr hf rfl dX4_ofTwo_136
  · replace hf := ite_f hf c1
    by_cases c3 : a0 = -14
    · replace hf := ite_t hf c3
      refine lv_tableIn (tgt := 121) hx hb dX4_ofTwo_1 (by rw [c3]; decide) (by rw [c3]; decide) (by rw [c3]; rfl) (by decide) ?_
      refine lv_iload_n hx hb dX4_ofTwo_121 rfl (lv_at hl 1 rfl) ?_
      refine lv_iload_n hx hb dX4_ofTwo_122 rfl (lv_at hl 2 rfl) ?_
      refine lv_imul hx hb dX4_ofTwo_123 ?_
      exact w_iret C hw hr hf rfl dX4_ofTwo_124
    · replace hf := ite_f hf c3
      by_cases c4 : a0 = -13
      · replace hf := ite_t hf c4
        refine lv_tableIn (tgt := 117) hx hb dX4_ofTwo_1 (by rw [c4]; decide) (by rw [c4]; decide) (by rw [c4]; rfl) (by decide) ?_
        refine lv_iload_n hx hb dX4_ofTwo_117 rfl (lv_at hl 1 rfl) ?_
        refine lv_iload_n hx hb dX4_ofTwo_118 rfl (lv_at hl 2 rfl) ?_
        refine lv_isub hx hb dX4_ofTwo_119 ?_
        exact w_iret C hw hr hf rfl dX4_ofTwo_120
      · replace hf := ite_f hf c4
        by_cases c5 : a0 = -12
        · replace hf := ite_t hf c5
          refine lv_tableIn (tgt := 113) hx hb dX4_ofTwo_1 (by rw [c5]; decide) (by rw [c5]; decide) (by rw [c5]; rfl) (by decide) ?_
          refine lv_iload_n hx hb dX4_ofTwo_113 rfl (lv_at hl 1 rfl) ?_
          refine lv_iload_n hx hb dX4_ofTwo_114 rfl (lv_at hl 2 rfl) ?_
          refine lv_iadd hx hb dX4_ofTwo_115 ?_
          exact w_iret C hw hr hf rfl dX4_ofTwo_116
        · replace hf := ite_f hf c5
          by_cases c6 : a0 = -11
          · replace hf := ite_t hf c6
            refine lv_tableIn (tgt := 102) hx hb dX4_ofTwo_1 (by rw [c6]; decide) (by rw [c6]; decide) (by rw [c6]; rfl) (by decide) ?_
            refine lv_iload_n hx hb dX4_ofTwo_102 rfl (lv_at hl 1 rfl) ?_
            refine lv_iload_n hx hb dX4_ofTwo_103 rfl (lv_at hl 2 rfl) ?_
            refine lv_icmp_le (tgt := 111) hx hb dX4_ofTwo_104 (by decide) (fun c7 => ?_) (fun c7 => ?_)
            · replace hf := ite_t hf c7
              refine lv_iconst (v := 0) hx hb dX4_ofTwo_111 (by decide) ?_
              exact w_iret C hw hr hf rfl dX4_ofTwo_112
            · replace hf := ite_f hf c7
              refine lv_iconst (v := 1) hx hb dX4_ofTwo_107 (by decide) ?_
              refine lv_goto (tgt := 112) hx hb dX4_ofTwo_108 (by decide) ?_
              exact w_iret C hw hr hf rfl dX4_ofTwo_112
          · replace hf := ite_f hf c6
            by_cases c8 : a0 = -10
            · replace hf := ite_t hf c8
              refine lv_tableIn (tgt := 91) hx hb dX4_ofTwo_1 (by rw [c8]; decide) (by rw [c8]; decide) (by rw [c8]; rfl) (by decide) ?_
              refine lv_iload_n hx hb dX4_ofTwo_91 rfl (lv_at hl 1 rfl) ?_
              refine lv_iload_n hx hb dX4_ofTwo_92 rfl (lv_at hl 2 rfl) ?_
              refine lv_icmp_ne (tgt := 100) hx hb dX4_ofTwo_93 (by decide) (fun c9 => ?_) (fun c9 => ?_)
              · replace hf := ite_f hf c9
                refine lv_iconst (v := 0) hx hb dX4_ofTwo_100 (by decide) ?_
                exact w_iret C hw hr hf rfl dX4_ofTwo_101
              · replace hf := ite_t hf c9
                refine lv_iconst (v := 1) hx hb dX4_ofTwo_96 (by decide) ?_
                refine lv_goto (tgt := 101) hx hb dX4_ofTwo_97 (by decide) ?_
                exact w_iret C hw hr hf rfl dX4_ofTwo_101
            · replace hf := ite_f hf c8
              by_cases c10 : a0 = -9
              · replace hf := ite_t hf c10
                refine lv_tableIn (tgt := 80) hx hb dX4_ofTwo_1 (by rw [c10]; decide) (by rw [c10]; decide) (by rw [c10]; rfl) (by decide) ?_
                refine lv_iload_n hx hb dX4_ofTwo_80 rfl (lv_at hl 1 rfl) ?_
                refine lv_iload_n hx hb dX4_ofTwo_81 rfl (lv_at hl 2 rfl) ?_
                refine lv_icmp_ge (tgt := 89) hx hb dX4_ofTwo_82 (by decide) (fun c11 => ?_) (fun c11 => ?_)
                · replace hf := ite_t hf c11
                  refine lv_iconst (v := 0) hx hb dX4_ofTwo_89 (by decide) ?_
                  exact w_iret C hw hr hf rfl dX4_ofTwo_90
                · replace hf := ite_f hf c11
                  refine lv_iconst (v := 1) hx hb dX4_ofTwo_85 (by decide) ?_
                  refine lv_goto (tgt := 90) hx hb dX4_ofTwo_86 (by decide) ?_
                  exact w_iret C hw hr hf rfl dX4_ofTwo_90
              · replace hf := ite_f hf c10
                by_cases c12 : a0 = -8
                · replace hf := ite_t hf c12
                  refine lv_tableIn (tgt := 66) hx hb dX4_ofTwo_1 (by rw [c12]; decide) (by rw [c12]; decide) (by rw [c12]; rfl) (by decide) ?_
                  refine lv_iload_n hx hb dX4_ofTwo_66 rfl (lv_at hl 1 rfl) ?_
                  refine lv_if_eq (tgt := 78) hx hb dX4_ofTwo_67 (by decide) (fun c13 => ?_) (fun c13 => ?_)
                  · replace hf := ite_t hf c13
                    refine lv_iconst (v := 0) hx hb dX4_ofTwo_78 (by decide) ?_
                    exact w_iret C hw hr hf rfl dX4_ofTwo_79
                  · replace hf := ite_f hf c13
                    refine lv_iload_n hx hb dX4_ofTwo_70 rfl (lv_at hl 2 rfl) ?_
                    refine lv_if_eq (tgt := 78) hx hb dX4_ofTwo_71 (by decide) (fun c14 => ?_) (fun c14 => ?_)
                    · replace hf := ite_t hf c14
                      refine lv_iconst (v := 0) hx hb dX4_ofTwo_78 (by decide) ?_
                      exact w_iret C hw hr hf rfl dX4_ofTwo_79
                    · replace hf := ite_f hf c14
                      refine lv_iconst (v := 1) hx hb dX4_ofTwo_74 (by decide) ?_
                      refine lv_goto (tgt := 79) hx hb dX4_ofTwo_75 (by decide) ?_
                      exact w_iret C hw hr hf rfl dX4_ofTwo_79
                · replace hf := ite_f hf c12
                  by_cases c15 : a0 = -7
                  · replace hf := ite_t hf c15
                    refine lv_tableIn (tgt := 52) hx hb dX4_ofTwo_1 (by rw [c15]; decide) (by rw [c15]; decide) (by rw [c15]; rfl) (by decide) ?_
                    refine lv_iload_n hx hb dX4_ofTwo_52 rfl (lv_at hl 1 rfl) ?_
                    refine lv_if_ne (tgt := 60) hx hb dX4_ofTwo_53 (by decide) (fun c16 => ?_) (fun c16 => ?_)
                    · replace hf := ite_f hf c16
                      refine lv_iconst (v := 1) hx hb dX4_ofTwo_60 (by decide) ?_
                      refine lv_goto (tgt := 65) hx hb dX4_ofTwo_61 (by decide) ?_
                      exact w_iret C hw hr hf rfl dX4_ofTwo_65
                    · replace hf := ite_t hf c16
                      refine lv_iload_n hx hb dX4_ofTwo_56 rfl (lv_at hl 2 rfl) ?_
                      refine lv_if_eq (tgt := 64) hx hb dX4_ofTwo_57 (by decide) (fun c17 => ?_) (fun c17 => ?_)
                      · replace hf := ite_t hf c17
                        refine lv_iconst (v := 0) hx hb dX4_ofTwo_64 (by decide) ?_
                        exact w_iret C hw hr hf rfl dX4_ofTwo_65
                      · replace hf := ite_f hf c17
                        refine lv_iconst (v := 1) hx hb dX4_ofTwo_60 (by decide) ?_
                        refine lv_goto (tgt := 65) hx hb dX4_ofTwo_61 (by decide) ?_
                        exact w_iret C hw hr hf rfl dX4_ofTwo_65
                  · replace hf := ite_f hf c15
                    refine lv_tableOut (tgt := 137) hx hb dX4_ofTwo_1 (by have q0 := ne_toInt (a := -15) c1 (by decide); have q1 := ne_toInt (a := -14) c3 (by decide); have q2 := ne_toInt (a := -13) c4 (by decide); have q3 := ne_toInt (a := -12) c5 (by decide); have q4 := ne_toInt (a := -11) c6 (by decide); have q5 := ne_toInt (a := -10) c8 (by decide); have q6 := ne_toInt (a := -9) c10 (by decide); have q7 := ne_toInt (a := -8) c12 (by decide); have q8 := ne_toInt (a := -7) c15 (by decide); omega) (by decide) ?_
                    refine lv_iload_n hx hb dX4_ofTwo_137 rfl (lv_at hl 2 rfl) ?_
                    refine lv_if_ne (tgt := 145) hx hb dX4_ofTwo_138 (by decide) (fun c18 => ?_) (fun c18 => ?_)
                    · replace hf := ite_f hf c18
                      refine lv_iload_n hx hb dX4_ofTwo_145 rfl (lv_at hl 1 rfl) ?_
                      refine lv_iload_n hx hb dX4_ofTwo_146 rfl (lv_at hl 2 rfl) ?_
                      refine w_irem C c18 dX4_ofTwo_147 ?_
                      exact w_iret C hw hr hf rfl dX4_ofTwo_148
                    · replace hf := ite_t hf c18
                      refine lv_iconst (v := 0) hx hb dX4_ofTwo_141 (by decide) ?_
                      refine lv_goto (tgt := 148) hx hb dX4_ofTwo_142 (by decide) ?_
                      exact w_iret C hw hr hf rfl dX4_ofTwo_148
theorem dX4_weight_0 : decode cX4_weight 0 = .ok (.aload_n 0, 1) := by decide +kernel
theorem dX4_weight_1 : decode cX4_weight 1 = .ok (.getfield 21, 3) := by decide +kernel
theorem dX4_weight_4 : decode cX4_weight 4 = .ok (.ifCond .ne 31, 3) := by decide +kernel
theorem dX4_weight_7 : decode cX4_weight 7 = .ok (.iload 5, 2) := by decide +kernel
theorem dX4_weight_9 : decode cX4_weight 9 = .ok (.ifCond .eq 7, 3) := by decide +kernel
theorem dX4_weight_12 : decode cX4_weight 12 = .ok (.iconst 0, 1) := by decide +kernel
theorem dX4_weight_13 : decode cX4_weight 13 = .ok (.goto 21, 3) := by decide +kernel
theorem dX4_weight_16 : decode cX4_weight 16 = .ok (.bipush 10, 2) := by decide +kernel
theorem dX4_weight_18 : decode cX4_weight 18 = .ok (.iload 4, 2) := by decide +kernel
theorem dX4_weight_20 : decode cX4_weight 20 = .ok (.iadd, 1) := by decide +kernel
theorem dX4_weight_21 : decode cX4_weight 21 = .ok (.iload_n 1, 1) := by decide +kernel
theorem dX4_weight_22 : decode cX4_weight 22 = .ok (.isub, 1) := by decide +kernel
theorem dX4_weight_23 : decode cX4_weight 23 = .ok (.iload_n 2, 1) := by decide +kernel
theorem dX4_weight_24 : decode cX4_weight 24 = .ok (.iload_n 3, 1) := by decide +kernel
theorem dX4_weight_25 : decode cX4_weight 25 = .ok (.if_icmp .ne 7, 3) := by decide +kernel
theorem dX4_weight_28 : decode cX4_weight 28 = .ok (.iconst 3, 1) := by decide +kernel
theorem dX4_weight_29 : decode cX4_weight 29 = .ok (.goto 4, 3) := by decide +kernel
theorem dX4_weight_32 : decode cX4_weight 32 = .ok (.iconst 0, 1) := by decide +kernel
theorem dX4_weight_33 : decode cX4_weight 33 = .ok (.iadd, 1) := by decide +kernel
theorem dX4_weight_34 : decode cX4_weight 34 = .ok (.ireturn, 1) := by decide +kernel
theorem dX4_weight_35 : decode cX4_weight 35 = .ok (.aload_n 0, 1) := by decide +kernel
theorem dX4_weight_36 : decode cX4_weight 36 = .ok (.getfield 15, 3) := by decide +kernel
theorem dX4_weight_39 : decode cX4_weight 39 = .ok (.iconst 0, 1) := by decide +kernel
theorem dX4_weight_40 : decode cX4_weight 40 = .ok (.iload_n 1, 1) := by decide +kernel
theorem dX4_weight_41 : decode cX4_weight 41 = .ok (.iastore, 1) := by decide +kernel
theorem dX4_weight_42 : decode cX4_weight 42 = .ok (.aload_n 0, 1) := by decide +kernel
theorem dX4_weight_43 : decode cX4_weight 43 = .ok (.getfield 15, 3) := by decide +kernel
theorem dX4_weight_46 : decode cX4_weight 46 = .ok (.iconst 1, 1) := by decide +kernel
theorem dX4_weight_47 : decode cX4_weight 47 = .ok (.iload_n 2, 1) := by decide +kernel
theorem dX4_weight_48 : decode cX4_weight 48 = .ok (.iastore, 1) := by decide +kernel
theorem dX4_weight_49 : decode cX4_weight 49 = .ok (.aload_n 0, 1) := by decide +kernel
theorem dX4_weight_50 : decode cX4_weight 50 = .ok (.getfield 15, 3) := by decide +kernel
theorem dX4_weight_53 : decode cX4_weight 53 = .ok (.iconst 2, 1) := by decide +kernel
theorem dX4_weight_54 : decode cX4_weight 54 = .ok (.iload_n 3, 1) := by decide +kernel
theorem dX4_weight_55 : decode cX4_weight 55 = .ok (.iastore, 1) := by decide +kernel
theorem dX4_weight_56 : decode cX4_weight 56 = .ok (.aload_n 0, 1) := by decide +kernel
theorem dX4_weight_57 : decode cX4_weight 57 = .ok (.getfield 15, 3) := by decide +kernel
theorem dX4_weight_60 : decode cX4_weight 60 = .ok (.iconst 3, 1) := by decide +kernel
theorem dX4_weight_61 : decode cX4_weight 61 = .ok (.iload 4, 2) := by decide +kernel
theorem dX4_weight_63 : decode cX4_weight 63 = .ok (.iastore, 1) := by decide +kernel
theorem dX4_weight_64 : decode cX4_weight 64 = .ok (.aload_n 0, 1) := by decide +kernel
theorem dX4_weight_65 : decode cX4_weight 65 = .ok (.getfield 15, 3) := by decide +kernel
theorem dX4_weight_68 : decode cX4_weight 68 = .ok (.iconst 4, 1) := by decide +kernel
theorem dX4_weight_69 : decode cX4_weight 69 = .ok (.iload 5, 2) := by decide +kernel
theorem dX4_weight_71 : decode cX4_weight 71 = .ok (.iastore, 1) := by decide +kernel
theorem dX4_weight_72 : decode cX4_weight 72 = .ok (.aload_n 0, 1) := by decide +kernel
theorem dX4_weight_73 : decode cX4_weight 73 = .ok (.getfield 15, 3) := by decide +kernel
theorem dX4_weight_76 : decode cX4_weight 76 = .ok (.iconst 5, 1) := by decide +kernel
theorem dX4_weight_77 : decode cX4_weight 77 = .ok (.iload 6, 2) := by decide +kernel
theorem dX4_weight_79 : decode cX4_weight 79 = .ok (.iastore, 1) := by decide +kernel
theorem dX4_weight_80 : decode cX4_weight 80 = .ok (.iconst 0, 1) := by decide +kernel
theorem dX4_weight_81 : decode cX4_weight 81 = .ok (.istore 7, 2) := by decide +kernel
theorem dX4_weight_83 : decode cX4_weight 83 = .ok (.iconst 0, 1) := by decide +kernel
theorem dX4_weight_84 : decode cX4_weight 84 = .ok (.istore 8, 2) := by decide +kernel
theorem dX4_weight_86 : decode cX4_weight 86 = .ok (.iconst 0, 1) := by decide +kernel
theorem dX4_weight_87 : decode cX4_weight 87 = .ok (.istore 9, 2) := by decide +kernel
theorem dX4_weight_89 : decode cX4_weight 89 = .ok (.iload 9, 2) := by decide +kernel
theorem dX4_weight_91 : decode cX4_weight 91 = .ok (.aload_n 0, 1) := by decide +kernel
theorem dX4_weight_92 : decode cX4_weight 92 = .ok (.getfield 21, 3) := by decide +kernel
theorem dX4_weight_95 : decode cX4_weight 95 = .ok (.if_icmp .ge 253, 3) := by decide +kernel
theorem dX4_weight_98 : decode cX4_weight 98 = .ok (.iload 7, 2) := by decide +kernel
theorem dX4_weight_100 : decode cX4_weight 100 = .ok (.aload_n 0, 1) := by decide +kernel
theorem dX4_weight_101 : decode cX4_weight 101 = .ok (.getfield 18, 3) := by decide +kernel
theorem dX4_weight_104 : decode cX4_weight 104 = .ok (.arraylength, 1) := by decide +kernel
theorem dX4_weight_105 : decode cX4_weight 105 = .ok (.if_icmp .ge 243, 3) := by decide +kernel
theorem dX4_weight_108 : decode cX4_weight 108 = .ok (.aload_n 0, 1) := by decide +kernel
theorem dX4_weight_109 : decode cX4_weight 109 = .ok (.getfield 9, 3) := by decide +kernel
theorem dX4_weight_112 : decode cX4_weight 112 = .ok (.iload 9, 2) := by decide +kernel
theorem dX4_weight_114 : decode cX4_weight 114 = .ok (.iaload, 1) := by decide +kernel
theorem dX4_weight_115 : decode cX4_weight 115 = .ok (.istore 10, 2) := by decide +kernel
theorem dX4_weight_117 : decode cX4_weight 117 = .ok (.iload 10, 2) := by decide +kernel
theorem dX4_weight_119 : decode cX4_weight 119 = .ok (.bipush (-20), 2) := by decide +kernel
theorem dX4_weight_121 : decode cX4_weight 121 = .ok (.if_icmp .ne 21, 3) := by decide +kernel
theorem dX4_weight_124 : decode cX4_weight 124 = .ok (.iload 8, 2) := by decide +kernel
theorem dX4_weight_126 : decode cX4_weight 126 = .ok (.ifCond .ne 10, 3) := by decide +kernel
theorem dX4_weight_129 : decode cX4_weight 129 = .ok (.aload_n 0, 1) := by decide +kernel
theorem dX4_weight_130 : decode cX4_weight 130 = .ok (.getfield 18, 3) := by decide +kernel
theorem dX4_weight_133 : decode cX4_weight 133 = .ok (.iconst 0, 1) := by decide +kernel
theorem dX4_weight_134 : decode cX4_weight 134 = .ok (.iaload, 1) := by decide +kernel
theorem dX4_weight_135 : decode cX4_weight 135 = .ok (.ireturn, 1) := by decide +kernel
theorem dX4_weight_136 : decode cX4_weight 136 = .ok (.iconst 0, 1) := by decide +kernel
theorem dX4_weight_137 : decode cX4_weight 137 = .ok (.istore 8, 2) := by decide +kernel
theorem dX4_weight_139 : decode cX4_weight 139 = .ok (.goto 203, 3) := by decide +kernel
theorem dX4_weight_142 : decode cX4_weight 142 = .ok (.iload 8, 2) := by decide +kernel
theorem dX4_weight_144 : decode cX4_weight 144 = .ok (.ifCond .eq 6, 3) := by decide +kernel
theorem dX4_weight_147 : decode cX4_weight 147 = .ok (.goto 195, 3) := by decide +kernel
theorem dX4_weight_150 : decode cX4_weight 150 = .ok (.iload 10, 2) := by decide +kernel
theorem dX4_weight_152 : decode cX4_weight 152 = .ok (.ifCond .lt 18, 3) := by decide +kernel
theorem dX4_weight_155 : decode cX4_weight 155 = .ok (.aload_n 0, 1) := by decide +kernel
theorem dX4_weight_156 : decode cX4_weight 156 = .ok (.getfield 18, 3) := by decide +kernel
theorem dX4_weight_159 : decode cX4_weight 159 = .ok (.iload 7, 2) := by decide +kernel
theorem dX4_weight_161 : decode cX4_weight 161 = .ok (.iinc 7 1, 3) := by decide +kernel
theorem dX4_weight_164 : decode cX4_weight 164 = .ok (.iload 10, 2) := by decide +kernel
theorem dX4_weight_166 : decode cX4_weight 166 = .ok (.iastore, 1) := by decide +kernel
theorem dX4_weight_167 : decode cX4_weight 167 = .ok (.goto 175, 3) := by decide +kernel
theorem dX4_weight_170 : decode cX4_weight 170 = .ok (.iload 10, 2) := by decide +kernel
theorem dX4_weight_172 : decode cX4_weight 172 = .ok (.bipush (-6), 2) := by decide +kernel
theorem dX4_weight_174 : decode cX4_weight 174 = .ok (.if_icmp .lt 25, 3) := by decide +kernel
theorem dX4_weight_177 : decode cX4_weight 177 = .ok (.aload_n 0, 1) := by decide +kernel
theorem dX4_weight_178 : decode cX4_weight 178 = .ok (.getfield 18, 3) := by decide +kernel
theorem dX4_weight_181 : decode cX4_weight 181 = .ok (.iload 7, 2) := by decide +kernel
theorem dX4_weight_183 : decode cX4_weight 183 = .ok (.iinc 7 1, 3) := by decide +kernel
theorem dX4_weight_186 : decode cX4_weight 186 = .ok (.aload_n 0, 1) := by decide +kernel
theorem dX4_weight_187 : decode cX4_weight 187 = .ok (.getfield 15, 3) := by decide +kernel
theorem dX4_weight_190 : decode cX4_weight 190 = .ok (.iconst (-1), 1) := by decide +kernel
theorem dX4_weight_191 : decode cX4_weight 191 = .ok (.iload 10, 2) := by decide +kernel
theorem dX4_weight_193 : decode cX4_weight 193 = .ok (.isub, 1) := by decide +kernel
theorem dX4_weight_194 : decode cX4_weight 194 = .ok (.iaload, 1) := by decide +kernel
theorem dX4_weight_195 : decode cX4_weight 195 = .ok (.iastore, 1) := by decide +kernel
theorem dX4_weight_196 : decode cX4_weight 196 = .ok (.goto 146, 3) := by decide +kernel
theorem dX4_weight_199 : decode cX4_weight 199 = .ok (.iload 10, 2) := by decide +kernel
theorem dX4_weight_201 : decode cX4_weight 201 = .ok (.bipush (-19), 2) := by decide +kernel
theorem dX4_weight_203 : decode cX4_weight 203 = .ok (.if_icmp .ne 25, 3) := by decide +kernel
theorem dX4_weight_206 : decode cX4_weight 206 = .ok (.aload_n 0, 1) := by decide +kernel
theorem dX4_weight_207 : decode cX4_weight 207 = .ok (.getfield 18, 3) := by decide +kernel
theorem dX4_weight_210 : decode cX4_weight 210 = .ok (.iconst 0, 1) := by decide +kernel
theorem dX4_weight_211 : decode cX4_weight 211 = .ok (.iaload, 1) := by decide +kernel
theorem dX4_weight_212 : decode cX4_weight 212 = .ok (.ifCond .ne 7, 3) := by decide +kernel
theorem dX4_weight_215 : decode cX4_weight 215 = .ok (.iconst 1, 1) := by decide +kernel
theorem dX4_weight_216 : decode cX4_weight 216 = .ok (.goto 4, 3) := by decide +kernel
theorem dX4_weight_219 : decode cX4_weight 219 = .ok (.iconst 0, 1) := by decide +kernel
theorem dX4_weight_220 : decode cX4_weight 220 = .ok (.istore 8, 2) := by decide +kernel
theorem dX4_weight_222 : decode cX4_weight 222 = .ok (.iconst 0, 1) := by decide +kernel
theorem dX4_weight_223 : decode cX4_weight 223 = .ok (.istore 7, 2) := by decide +kernel
theorem dX4_weight_225 : decode cX4_weight 225 = .ok (.goto 117, 3) := by decide +kernel
theorem dX4_weight_228 : decode cX4_weight 228 = .ok (.iload 10, 2) := by decide +kernel
theorem dX4_weight_230 : decode cX4_weight 230 = .ok (.bipush (-17), 2) := by decide +kernel
theorem dX4_weight_232 : decode cX4_weight 232 = .ok (.if_icmp .ne 37, 3) := by decide +kernel
theorem dX4_weight_235 : decode cX4_weight 235 = .ok (.iload 7, 2) := by decide +kernel
theorem dX4_weight_237 : decode cX4_weight 237 = .ok (.ifCond .le 32, 3) := by decide +kernel
theorem dX4_weight_240 : decode cX4_weight 240 = .ok (.aload_n 0, 1) := by decide +kernel
theorem dX4_weight_241 : decode cX4_weight 241 = .ok (.getfield 18, 3) := by decide +kernel
theorem dX4_weight_244 : decode cX4_weight 244 = .ok (.iload 7, 2) := by decide +kernel
theorem dX4_weight_246 : decode cX4_weight 246 = .ok (.iconst 1, 1) := by decide +kernel
theorem dX4_weight_247 : decode cX4_weight 247 = .ok (.isub, 1) := by decide +kernel
theorem dX4_weight_248 : decode cX4_weight 248 = .ok (.aload_n 0, 1) := by decide +kernel
theorem dX4_weight_249 : decode cX4_weight 249 = .ok (.getfield 18, 3) := by decide +kernel
theorem dX4_weight_252 : decode cX4_weight 252 = .ok (.iload 7, 2) := by decide +kernel
theorem dX4_weight_254 : decode cX4_weight 254 = .ok (.iconst 1, 1) := by decide +kernel
theorem dX4_weight_255 : decode cX4_weight 255 = .ok (.isub, 1) := by decide +kernel
theorem dX4_weight_256 : decode cX4_weight 256 = .ok (.iaload, 1) := by decide +kernel
theorem dX4_weight_257 : decode cX4_weight 257 = .ok (.ifCond .ne 7, 3) := by decide +kernel
theorem dX4_weight_260 : decode cX4_weight 260 = .ok (.iconst 1, 1) := by decide +kernel
theorem dX4_weight_261 : decode cX4_weight 261 = .ok (.goto 4, 3) := by decide +kernel
theorem dX4_weight_264 : decode cX4_weight 264 = .ok (.iconst 0, 1) := by decide +kernel
theorem dX4_weight_265 : decode cX4_weight 265 = .ok (.iastore, 1) := by decide +kernel
theorem dX4_weight_266 : decode cX4_weight 266 = .ok (.goto 76, 3) := by decide +kernel
theorem dX4_weight_269 : decode cX4_weight 269 = .ok (.iload 10, 2) := by decide +kernel
theorem dX4_weight_271 : decode cX4_weight 271 = .ok (.bipush (-18), 2) := by decide +kernel
theorem dX4_weight_273 : decode cX4_weight 273 = .ok (.if_icmp .ne 30, 3) := by decide +kernel
theorem dX4_weight_276 : decode cX4_weight 276 = .ok (.iload 7, 2) := by decide +kernel
theorem dX4_weight_278 : decode cX4_weight 278 = .ok (.ifCond .le 25, 3) := by decide +kernel
theorem dX4_weight_281 : decode cX4_weight 281 = .ok (.aload_n 0, 1) := by decide +kernel
theorem dX4_weight_282 : decode cX4_weight 282 = .ok (.getfield 18, 3) := by decide +kernel
theorem dX4_weight_285 : decode cX4_weight 285 = .ok (.iload 7, 2) := by decide +kernel
theorem dX4_weight_287 : decode cX4_weight 287 = .ok (.iconst 1, 1) := by decide +kernel
theorem dX4_weight_288 : decode cX4_weight 288 = .ok (.isub, 1) := by decide +kernel
theorem dX4_weight_289 : decode cX4_weight 289 = .ok (.aload_n 0, 1) := by decide +kernel
theorem dX4_weight_290 : decode cX4_weight 290 = .ok (.getfield 18, 3) := by decide +kernel
theorem dX4_weight_293 : decode cX4_weight 293 = .ok (.iload 7, 2) := by decide +kernel
theorem dX4_weight_295 : decode cX4_weight 295 = .ok (.iconst 1, 1) := by decide +kernel
theorem dX4_weight_296 : decode cX4_weight 296 = .ok (.isub, 1) := by decide +kernel
theorem dX4_weight_297 : decode cX4_weight 297 = .ok (.iaload, 1) := by decide +kernel
theorem dX4_weight_298 : decode cX4_weight 298 = .ok (.ineg, 1) := by decide +kernel
theorem dX4_weight_299 : decode cX4_weight 299 = .ok (.iastore, 1) := by decide +kernel
theorem dX4_weight_300 : decode cX4_weight 300 = .ok (.goto 42, 3) := by decide +kernel
theorem dX4_weight_303 : decode cX4_weight 303 = .ok (.iload 7, 2) := by decide +kernel
theorem dX4_weight_305 : decode cX4_weight 305 = .ok (.iconst 1, 1) := by decide +kernel
theorem dX4_weight_306 : decode cX4_weight 306 = .ok (.if_icmp .le 36, 3) := by decide +kernel
theorem dX4_weight_309 : decode cX4_weight 309 = .ok (.iinc 7 (-1), 3) := by decide +kernel
theorem dX4_weight_312 : decode cX4_weight 312 = .ok (.aload_n 0, 1) := by decide +kernel
theorem dX4_weight_313 : decode cX4_weight 313 = .ok (.getfield 18, 3) := by decide +kernel
theorem dX4_weight_316 : decode cX4_weight 316 = .ok (.iload 7, 2) := by decide +kernel
theorem dX4_weight_318 : decode cX4_weight 318 = .ok (.iconst 1, 1) := by decide +kernel
theorem dX4_weight_319 : decode cX4_weight 319 = .ok (.isub, 1) := by decide +kernel
theorem dX4_weight_320 : decode cX4_weight 320 = .ok (.iload 10, 2) := by decide +kernel
theorem dX4_weight_322 : decode cX4_weight 322 = .ok (.aload_n 0, 1) := by decide +kernel
theorem dX4_weight_323 : decode cX4_weight 323 = .ok (.getfield 18, 3) := by decide +kernel
theorem dX4_weight_326 : decode cX4_weight 326 = .ok (.iload 7, 2) := by decide +kernel
theorem dX4_weight_328 : decode cX4_weight 328 = .ok (.iconst 1, 1) := by decide +kernel
theorem dX4_weight_329 : decode cX4_weight 329 = .ok (.isub, 1) := by decide +kernel
theorem dX4_weight_330 : decode cX4_weight 330 = .ok (.iaload, 1) := by decide +kernel
theorem dX4_weight_331 : decode cX4_weight 331 = .ok (.aload_n 0, 1) := by decide +kernel
theorem dX4_weight_332 : decode cX4_weight 332 = .ok (.getfield 18, 3) := by decide +kernel
theorem dX4_weight_335 : decode cX4_weight 335 = .ok (.iload 7, 2) := by decide +kernel
theorem dX4_weight_337 : decode cX4_weight 337 = .ok (.iaload, 1) := by decide +kernel
theorem dX4_weight_338 : decode cX4_weight 338 = .ok (.invokestatic 25, 3) := by decide +kernel
theorem dX4_weight_341 : decode cX4_weight 341 = .ok (.iastore, 1) := by decide +kernel
theorem dX4_weight_342 : decode cX4_weight 342 = .ok (.iinc 9 1, 3) := by decide +kernel
theorem dX4_weight_345 : decode cX4_weight 345 = .ok (.goto (-256), 3) := by decide +kernel
theorem dX4_weight_348 : decode cX4_weight 348 = .ok (.iconst 0, 1) := by decide +kernel
theorem dX4_weight_349 : decode cX4_weight 349 = .ok (.ireturn, 1) := by decide +kernel
theorem ok_yX4_weight : yOk yX4_weight 6 := ⟨by decide +kernel, by decide +kernel, by decide +kernel⟩
def fX4_weight_303 (kB89 : St → Int32 → Int32 → Int32 → Option (Int32 × St)) (n : Nat) (st : St) (v7 : Int32) (v8 : Int32) (v9 : Int32) (v10 : Int32) : Option (Int32 × St) := if v7 ≤ (1 : Int32) then (bnd (v9 + (1 : Int32)) (fun x75 => kB89 st v7 v8 x75)) else (bnd (v7 + (-1 : Int32)) (fun x77 => gd (inB (x77 - (1 : Int32)) 120) (gd (inB x77 120) (gd (inB (x77 - (1 : Int32)) 120) (bnd (sI st 20 (x77 - (1 : Int32)).toNatClampNeg (fX4_ofTwo v10 (gI st 20 (x77 - (1 : Int32)).toNatClampNeg) (gI st 20 x77.toNatClampNeg))) (fun st82 => bnd (v9 + (1 : Int32)) (fun x84 => kB89 st82 x77 v8 x84)))))))
set_option maxHeartbeats 4000000 in
theorem tX4_weight_303 {p : Program} {l : Launch} {e : Env} {s : State} {m : MethodId} {args : Array Value} {below : List Frame} {meth : Method} {c : Code} {X : WX} (C : Amb 65 X p s m args meth c cX4_weight 11 RX4) (hr : meth.sig.returnType = some .int) {R : Int32 × St} {n : Nat} {kB89 : St → Int32 → Int32 → Int32 → Option (Int32 × St)} (hB89 : ∀ (st : St) (v7 : Int32) (v8 : Int32) (v9 : Int32) (H : Heap) (locs : List Loc) (ls : Array Slot), Wd EC 65 X s.heap st H locs → lv_has ls 11 [(0, .ref (xq X 17)), (7, .int v7), (8, .int v8), (9, .int v9)] → kB89 st v7 v8 v9 = some R → W p l e { frames := 1, cells := 0, slots := 0, locals := 22 } s m args below meth c H locs 0 0 (QI EC 65 X R.1 R.2 below args s) (F0 m 89 ls [])) : ∀ (st : St) (v7 : Int32) (v8 : Int32) (v9 : Int32) (v10 : Int32) (H : Heap) (locs : List Loc) (ls : Array Slot), Wd EC 65 X s.heap st H locs → lv_has ls 11 [(0, .ref (xq X 17)), (7, .int v7), (8, .int v8), (9, .int v9), (10, .int v10)] → fX4_weight_303 kB89 n st v7 v8 v9 v10 = some R → W p l e { frames := 1, cells := 0, slots := 0, locals := 22 } s m args below meth c H locs 0 0 (QI EC 65 X R.1 R.2 below args s) (F0 m 303 ls []) := by
  obtain ⟨hx, hb, hml, hown, hts⟩ := id C.1
  intro st v7 v8 v9 v10 H locs ls  hw hl hf
  unfold fX4_weight_303 at hf
  refine lv_iload hx hb dX4_weight_303 (lv_at hl 1 rfl) ?_
  refine lv_iconst (v := 1) hx hb dX4_weight_305 (by decide) ?_
  refine lv_icmp_le (tgt := 342) hx hb dX4_weight_306 (by decide) (fun c74 => ?_) (fun c74 => ?_)
  · replace hf := ite_t hf c74
    obtain ⟨x75, e76⟩ : ∃ z : Int32, z = v9 + (1 : Int32) := ⟨_, rfl⟩
    replace hf := bnd_nm hf e76
    refine lv_iinc (v := x75) (lv' := [(9, .int x75), (0, .ref (xq X 17)), (7, .int v7), (8, .int v8), (10, .int v10)]) hx hb dX4_weight_342 hl (k := 3) rfl (by rw [e76]; rfl) (by decide) rfl (fun ls hl => ?_)
    refine lv_goto (tgt := 89) hx hb dX4_weight_345 (by decide) ?_
    exact hB89 st v7 v8 x75 _ _ _ hw (lv_sub hl [1, 2, 3, 0] rfl) hf
  · replace hf := ite_f hf c74
    obtain ⟨x77, e78⟩ : ∃ z : Int32, z = v7 + (-1 : Int32) := ⟨_, rfl⟩
    replace hf := bnd_nm hf e78
    refine lv_iinc (v := x77) (lv' := [(7, .int x77), (0, .ref (xq X 17)), (8, .int v8), (9, .int v9), (10, .int v10)]) hx hb dX4_weight_309 hl (k := 1) rfl (by rw [e78]; rfl) (by decide) rfl (fun ls hl => ?_)
    refine lv_aload_n hx hb dX4_weight_312 rfl (lv_at hl 1 rfl) ?_
    refine w_get (T := TX4) C hw (by decide) 3 kf_X4_18 (EC_17 X _ _) rfl inA4 (by decide) rfl dX4_weight_313 ?_
    refine lv_iload hx hb dX4_weight_316 (lv_at hl 0 rfl) ?_
    refine lv_iconst (v := 1) hx hb dX4_weight_318 (by decide) ?_
    refine lv_isub hx hb dX4_weight_319 ?_
    refine lv_iload hx hb dX4_weight_320 (lv_at hl 4 rfl) ?_
    refine lv_aload_n hx hb dX4_weight_322 rfl (lv_at hl 1 rfl) ?_
    refine w_get (T := TX4) C hw (by decide) 3 kf_X4_18 (EC_17 X _ _) rfl inA4 (by decide) rfl dX4_weight_323 ?_
    refine lv_iload hx hb dX4_weight_326 (lv_at hl 0 rfl) ?_
    refine lv_iconst (v := 1) hx hb dX4_weight_328 (by decide) ?_
    refine lv_isub hx hb dX4_weight_329 ?_
    obtain ⟨h79, hf⟩ := gd_some hf
    refine w_iald C hw (by decide) (EC_20 X _ _) h79 rfl dX4_weight_330 ?_
    refine lv_aload_n hx hb dX4_weight_331 rfl (lv_at hl 1 rfl) ?_
    refine w_get (T := TX4) C hw (by decide) 3 kf_X4_18 (EC_17 X _ _) rfl inA4 (by decide) rfl dX4_weight_332 ?_
    refine lv_iload hx hb dX4_weight_335 (lv_at hl 0 rfl) ?_
    obtain ⟨h80, hf⟩ := gd_some hf
    refine w_iald C hw (by decide) (EC_20 X _ _) h80 rfl dX4_weight_337 ?_
    refine w_goI hw (w_runS (rest := [.int (x77 - (1 : Int32)), .ref (xq X 20)]) C hw (zX4_ofTwo _ _ st v10 (gI st 20 (x77 - (1 : Int32)).toNatClampNeg) (gI st 20 x77.toNatClampNeg)) km_X4_25 kt_yX4_ofTwo kz_X4 kc_X4_ofTwo ok_yX4_ofTwo ⟨Nat.le_of_ble_eq_true rfl, Nat.le_of_ble_eq_true rfl⟩ rfl rfl rfl rfl hl.1 (Nat.le_of_ble_eq_true rfl) dX4_weight_338 ⟨Nat.zero_le _, Nat.zero_le _⟩) (fun H locs hw => ?_)
    obtain ⟨h81, hf⟩ := gd_some hf
    obtain ⟨st82, es83⟩ : ∃ z : St, z = sI st 20 (x77 - (1 : Int32)).toNatClampNeg (fX4_ofTwo v10 (gI st 20 (x77 - (1 : Int32)).toNatClampNeg) (gI st 20 x77.toNatClampNeg)) := ⟨_, rfl⟩
    replace hf := bnd_nm hf es83
    refine w_iast C hw (by decide) (fun f9 => EC_20 X f9 _) h81 rfl dX4_weight_341 (fun H locs hw => ?_)
    rw [← es83] at hw
    obtain ⟨x84, e85⟩ : ∃ z : Int32, z = v9 + (1 : Int32) := ⟨_, rfl⟩
    replace hf := bnd_nm hf e85
    refine lv_iinc (v := x84) (lv' := [(9, .int x84), (7, .int x77), (0, .ref (xq X 17)), (8, .int v8), (10, .int v10)]) hx hb dX4_weight_342 hl (k := 3) rfl (by rw [e85]; rfl) (by decide) rfl (fun ls hl => ?_)
    refine lv_goto (tgt := 89) hx hb dX4_weight_345 (by decide) ?_
    exact hB89 st82 x77 v8 x84 _ _ _ hw (lv_sub hl [2, 1, 3, 0] rfl) hf
def fX4_weight_269 (kB89 : St → Int32 → Int32 → Int32 → Option (Int32 × St)) (n : Nat) (st : St) (v7 : Int32) (v8 : Int32) (v9 : Int32) (v10 : Int32) : Option (Int32 × St) := if v10 = (-18 : Int32) then (if v7 ≤ 0 then (fX4_weight_303 kB89 n st v7 v8 v9 v10) else (gd (inB (v7 - (1 : Int32)) 120) (gd (inB (v7 - (1 : Int32)) 120) (bnd (sI st 20 (v7 - (1 : Int32)).toNatClampNeg (-(gI st 20 (v7 - (1 : Int32)).toNatClampNeg))) (fun st70 => bnd (v9 + (1 : Int32)) (fun x72 => kB89 st70 v7 v8 x72)))))) else (fX4_weight_303 kB89 n st v7 v8 v9 v10)
set_option maxHeartbeats 4000000 in
theorem tX4_weight_269 {p : Program} {l : Launch} {e : Env} {s : State} {m : MethodId} {args : Array Value} {below : List Frame} {meth : Method} {c : Code} {X : WX} (C : Amb 65 X p s m args meth c cX4_weight 11 RX4) (hr : meth.sig.returnType = some .int) {R : Int32 × St} {n : Nat} {kB89 : St → Int32 → Int32 → Int32 → Option (Int32 × St)} (hB89 : ∀ (st : St) (v7 : Int32) (v8 : Int32) (v9 : Int32) (H : Heap) (locs : List Loc) (ls : Array Slot), Wd EC 65 X s.heap st H locs → lv_has ls 11 [(0, .ref (xq X 17)), (7, .int v7), (8, .int v8), (9, .int v9)] → kB89 st v7 v8 v9 = some R → W p l e { frames := 1, cells := 0, slots := 0, locals := 22 } s m args below meth c H locs 0 0 (QI EC 65 X R.1 R.2 below args s) (F0 m 89 ls [])) : ∀ (st : St) (v7 : Int32) (v8 : Int32) (v9 : Int32) (v10 : Int32) (H : Heap) (locs : List Loc) (ls : Array Slot), Wd EC 65 X s.heap st H locs → lv_has ls 11 [(0, .ref (xq X 17)), (7, .int v7), (8, .int v8), (9, .int v9), (10, .int v10)] → fX4_weight_269 kB89 n st v7 v8 v9 v10 = some R → W p l e { frames := 1, cells := 0, slots := 0, locals := 22 } s m args below meth c H locs 0 0 (QI EC 65 X R.1 R.2 below args s) (F0 m 269 ls []) := by
  obtain ⟨hx, hb, hml, hown, hts⟩ := id C.1
  intro st v7 v8 v9 v10 H locs ls  hw hl hf
  unfold fX4_weight_269 at hf
  refine lv_iload hx hb dX4_weight_269 (lv_at hl 4 rfl) ?_
  refine lv_bipush (v := -18) hx hb dX4_weight_271 (by decide) ?_
  refine lv_icmp_ne (tgt := 303) hx hb dX4_weight_273 (by decide) (fun c66 => ?_) (fun c66 => ?_)
  · replace hf := ite_f hf c66
    exact tX4_weight_303 C hr hB89 st v7 v8 v9 v10 _ _ _ hw (lv_sub hl [0, 1, 2, 3, 4] rfl) hf
  · replace hf := ite_t hf c66
    refine lv_iload hx hb dX4_weight_276 (lv_at hl 1 rfl) ?_
    refine lv_if_le (tgt := 303) hx hb dX4_weight_278 (by decide) (fun c67 => ?_) (fun c67 => ?_)
    · replace hf := ite_t hf c67
      exact tX4_weight_303 C hr hB89 st v7 v8 v9 v10 _ _ _ hw (lv_sub hl [0, 1, 2, 3, 4] rfl) hf
    · replace hf := ite_f hf c67
      refine lv_aload_n hx hb dX4_weight_281 rfl (lv_at hl 0 rfl) ?_
      refine w_get (T := TX4) C hw (by decide) 3 kf_X4_18 (EC_17 X _ _) rfl inA4 (by decide) rfl dX4_weight_282 ?_
      refine lv_iload hx hb dX4_weight_285 (lv_at hl 1 rfl) ?_
      refine lv_iconst (v := 1) hx hb dX4_weight_287 (by decide) ?_
      refine lv_isub hx hb dX4_weight_288 ?_
      refine lv_aload_n hx hb dX4_weight_289 rfl (lv_at hl 0 rfl) ?_
      refine w_get (T := TX4) C hw (by decide) 3 kf_X4_18 (EC_17 X _ _) rfl inA4 (by decide) rfl dX4_weight_290 ?_
      refine lv_iload hx hb dX4_weight_293 (lv_at hl 1 rfl) ?_
      refine lv_iconst (v := 1) hx hb dX4_weight_295 (by decide) ?_
      refine lv_isub hx hb dX4_weight_296 ?_
      obtain ⟨h68, hf⟩ := gd_some hf
      refine w_iald C hw (by decide) (EC_20 X _ _) h68 rfl dX4_weight_297 ?_
      refine lv_ineg hx hb dX4_weight_298 ?_
      obtain ⟨h69, hf⟩ := gd_some hf
      obtain ⟨st70, es71⟩ : ∃ z : St, z = sI st 20 (v7 - (1 : Int32)).toNatClampNeg (-(gI st 20 (v7 - (1 : Int32)).toNatClampNeg)) := ⟨_, rfl⟩
      replace hf := bnd_nm hf es71
      refine w_iast C hw (by decide) (fun f9 => EC_20 X f9 _) h69 rfl dX4_weight_299 (fun H locs hw => ?_)
      rw [← es71] at hw
      refine lv_goto (tgt := 342) hx hb dX4_weight_300 (by decide) ?_
      obtain ⟨x72, e73⟩ : ∃ z : Int32, z = v9 + (1 : Int32) := ⟨_, rfl⟩
      replace hf := bnd_nm hf e73
      refine lv_iinc (v := x72) (lv' := [(9, .int x72), (0, .ref (xq X 17)), (7, .int v7), (8, .int v8), (10, .int v10)]) hx hb dX4_weight_342 hl (k := 3) rfl (by rw [e73]; rfl) (by decide) rfl (fun ls hl => ?_)
      refine lv_goto (tgt := 89) hx hb dX4_weight_345 (by decide) ?_
      exact hB89 st70 v7 v8 x72 _ _ _ hw (lv_sub hl [1, 2, 3, 0] rfl) hf
def fX4_weight_89 (n : Nat) : Nat → St → Int32 → Int32 → Int32 → Option (Int32 × St)
  | 0, _, _, _, _ => none
  | k + 1, st, v7, v8, v9 => if gI st 17 1 ≤ v9 then (some ((0 : Int32), st)) else (if (120 : Int32) ≤ v7 then (some ((0 : Int32), st)) else (gd (cdB (gI st 17 0)) (gd (inB v9 121) (bnd (gI st ((gI st 17 0).toNatClampNeg) v9.toNatClampNeg) (fun x20 => if x20 = (-20 : Int32) then (if v8 = 0 then (some ((gI st 20 0), st)) else (bnd (v9 + (1 : Int32)) (fun x64 => fX4_weight_89 n k st v7 (0 : Int32) x64))) else (if v8 = 0 then (if x20 < 0 then (if x20 < (-6 : Int32) then (if x20 = (-19 : Int32) then (if gI st 20 0 = 0 then (bnd (v9 + (1 : Int32)) (fun x44 => fX4_weight_89 n k st (0 : Int32) (1 : Int32) x44)) else (bnd (v9 + (1 : Int32)) (fun x42 => fX4_weight_89 n k st (0 : Int32) (0 : Int32) x42))) else (if x20 = (-17 : Int32) then (if v7 ≤ 0 then (fX4_weight_269 (fX4_weight_89 n k) n st v7 v8 v9 x20) else (gd (inB (v7 - (1 : Int32)) 120) (if gI st 20 (v7 - (1 : Int32)).toNatClampNeg = 0 then (gd (inB (v7 - (1 : Int32)) 120) (bnd (sI st 20 (v7 - (1 : Int32)).toNatClampNeg (1 : Int32)) (fun st37 => bnd (v9 + (1 : Int32)) (fun x39 => fX4_weight_89 n k st37 v7 v8 x39)))) else (gd (inB (v7 - (1 : Int32)) 120) (bnd (sI st 20 (v7 - (1 : Int32)).toNatClampNeg (0 : Int32)) (fun st32 => bnd (v9 + (1 : Int32)) (fun x34 => fX4_weight_89 n k st32 v7 v8 x34))))))) else (fX4_weight_269 (fX4_weight_89 n k) n st v7 v8 v9 x20))) else (bnd (v7 + (1 : Int32)) (fun x46 => gd (inB ((-1 : Int32) - x20) 6) (gd (inB v7 120) (bnd (sI st 20 v7.toNatClampNeg (gI st 19 ((-1 : Int32) - x20).toNatClampNeg)) (fun st50 => bnd (v9 + (1 : Int32)) (fun x52 => fX4_weight_89 n k st50 x46 v8 x52))))))) else (bnd (v7 + (1 : Int32)) (fun x54 => gd (inB v7 120) (bnd (sI st 20 v7.toNatClampNeg x20) (fun st57 => bnd (v9 + (1 : Int32)) (fun x59 => fX4_weight_89 n k st57 x54 v8 x59)))))) else (bnd (v9 + (1 : Int32)) (fun x61 => fX4_weight_89 n k st v7 v8 x61))))))))
set_option maxHeartbeats 4000000 in
theorem tX4_weight_89 {p : Program} {l : Launch} {e : Env} {s : State} {m : MethodId} {args : Array Value} {below : List Frame} {meth : Method} {c : Code} {X : WX} (C : Amb 65 X p s m args meth c cX4_weight 11 RX4) (hr : meth.sig.returnType = some .int) {R : Int32 × St} {n : Nat} : ∀ (k : Nat) (st : St) (v7 : Int32) (v8 : Int32) (v9 : Int32) (H : Heap) (locs : List Loc) (ls : Array Slot), Wd EC 65 X s.heap st H locs → lv_has ls 11 [(0, .ref (xq X 17)), (7, .int v7), (8, .int v8), (9, .int v9)] → fX4_weight_89 n k st v7 v8 v9 = some R → W p l e { frames := 1, cells := 0, slots := 0, locals := 22 } s m args below meth c H locs 0 0 (QI EC 65 X R.1 R.2 below args s) (F0 m 89 ls []) := by
  obtain ⟨hx, hb, hml, hown, hts⟩ := id C.1
  intro k
  induction k with
  | zero => intro st v7 v8 v9 H locs ls  hw hl hf; exact absurd (show none = some R from hf) (fun z => by cases z)
  | succ k ih =>
    intro st v7 v8 v9 H locs ls  hw hl hf
    rw [fX4_weight_89] at hf
    refine lv_iload hx hb dX4_weight_89 (lv_at hl 3 rfl) ?_
    refine lv_aload_n hx hb dX4_weight_91 rfl (lv_at hl 0 rfl) ?_
    refine w_get (T := TX4) C hw (by decide) 1 kf_X4_21 (EC_17 X _ _) rfl inA4 (by decide) rfl dX4_weight_92 ?_
    refine lv_icmp_ge (tgt := 348) hx hb dX4_weight_95 (by decide) (fun c16 => ?_) (fun c16 => ?_)
    · replace hf := ite_t hf c16
      refine lv_iconst (v := 0) hx hb dX4_weight_348 (by decide) ?_
      exact w_iret C hw hr (so2 hf).1 (so2 hf).2 dX4_weight_349
    · replace hf := ite_f hf c16
      refine lv_iload hx hb dX4_weight_98 (lv_at hl 1 rfl) ?_
      refine lv_aload_n hx hb dX4_weight_100 rfl (lv_at hl 0 rfl) ?_
      refine w_get (T := TX4) C hw (by decide) 3 kf_X4_18 (EC_17 X _ _) rfl inA4 (by decide) rfl dX4_weight_101 ?_
      refine w_alen (v := 120) C hw (by decide) (EC_20 X _ _) rfl rfl dX4_weight_104 ?_
      refine lv_icmp_ge (tgt := 348) hx hb dX4_weight_105 (by decide) (fun c17 => ?_) (fun c17 => ?_)
      · replace hf := ite_t hf c17
        refine lv_iconst (v := 0) hx hb dX4_weight_348 (by decide) ?_
        exact w_iret C hw hr (so2 hf).1 (so2 hf).2 dX4_weight_349
      · replace hf := ite_f hf c17
        refine lv_aload_n hx hb dX4_weight_108 rfl (lv_at hl 0 rfl) ?_
        refine w_get (T := TX4) C hw (by decide) 0 kf_X4_9 (EC_17 X _ _) rfl inA4 (by decide) rfl dX4_weight_109 ?_
        refine lv_iload hx hb dX4_weight_112 (lv_at hl 3 rfl) ?_
        obtain ⟨h18, hf⟩ := gd_some hf
        obtain ⟨h19, hf⟩ := gd_some hf
        refine w_iald C hw (EC_cdN h18) (EC_cd X h18 _ _) h19 rfl dX4_weight_114 ?_
        refine lv_topi (fun x20 e21 => ?_)
        replace hf := bnd_nm hf e21
        refine lv_istore (lv' := [(10, .int x20), (0, .ref (xq X 17)), (7, .int v7), (8, .int v8), (9, .int v9)]) hx hb dX4_weight_115 hl (by decide) rfl (fun ls hl => ?_)
        refine lv_iload hx hb dX4_weight_117 (lv_at hl 0 rfl) ?_
        refine lv_bipush (v := -20) hx hb dX4_weight_119 (by decide) ?_
        refine lv_icmp_ne (tgt := 142) hx hb dX4_weight_121 (by decide) (fun c22 => ?_) (fun c22 => ?_)
        · replace hf := ite_f hf c22
          refine lv_iload hx hb dX4_weight_142 (lv_at hl 3 rfl) ?_
          refine lv_if_eq (tgt := 150) hx hb dX4_weight_144 (by decide) (fun c23 => ?_) (fun c23 => ?_)
          · replace hf := ite_t hf c23
            refine lv_iload hx hb dX4_weight_150 (lv_at hl 0 rfl) ?_
            refine lv_if_lt (tgt := 170) hx hb dX4_weight_152 (by decide) (fun c24 => ?_) (fun c24 => ?_)
            · replace hf := ite_t hf c24
              refine lv_iload hx hb dX4_weight_170 (lv_at hl 0 rfl) ?_
              refine lv_bipush (v := -6) hx hb dX4_weight_172 (by decide) ?_
              refine lv_icmp_lt (tgt := 199) hx hb dX4_weight_174 (by decide) (fun c25 => ?_) (fun c25 => ?_)
              · replace hf := ite_t hf c25
                refine lv_iload hx hb dX4_weight_199 (lv_at hl 0 rfl) ?_
                refine lv_bipush (v := -19) hx hb dX4_weight_201 (by decide) ?_
                refine lv_icmp_ne (tgt := 228) hx hb dX4_weight_203 (by decide) (fun c26 => ?_) (fun c26 => ?_)
                · replace hf := ite_f hf c26
                  refine lv_iload hx hb dX4_weight_228 (lv_at hl 0 rfl) ?_
                  refine lv_bipush (v := -17) hx hb dX4_weight_230 (by decide) ?_
                  refine lv_icmp_ne (tgt := 269) hx hb dX4_weight_232 (by decide) (fun c27 => ?_) (fun c27 => ?_)
                  · replace hf := ite_f hf c27
                    exact tX4_weight_269 C hr ih st v7 v8 v9 x20 _ _ _ hw (lv_sub hl [1, 2, 3, 4, 0] rfl) hf
                  · replace hf := ite_t hf c27
                    refine lv_iload hx hb dX4_weight_235 (lv_at hl 2 rfl) ?_
                    refine lv_if_le (tgt := 269) hx hb dX4_weight_237 (by decide) (fun c28 => ?_) (fun c28 => ?_)
                    · replace hf := ite_t hf c28
                      exact tX4_weight_269 C hr ih st v7 v8 v9 x20 _ _ _ hw (lv_sub hl [1, 2, 3, 4, 0] rfl) hf
                    · replace hf := ite_f hf c28
                      refine lv_aload_n hx hb dX4_weight_240 rfl (lv_at hl 1 rfl) ?_
                      refine w_get (T := TX4) C hw (by decide) 3 kf_X4_18 (EC_17 X _ _) rfl inA4 (by decide) rfl dX4_weight_241 ?_
                      refine lv_iload hx hb dX4_weight_244 (lv_at hl 2 rfl) ?_
                      refine lv_iconst (v := 1) hx hb dX4_weight_246 (by decide) ?_
                      refine lv_isub hx hb dX4_weight_247 ?_
                      refine lv_aload_n hx hb dX4_weight_248 rfl (lv_at hl 1 rfl) ?_
                      refine w_get (T := TX4) C hw (by decide) 3 kf_X4_18 (EC_17 X _ _) rfl inA4 (by decide) rfl dX4_weight_249 ?_
                      refine lv_iload hx hb dX4_weight_252 (lv_at hl 2 rfl) ?_
                      refine lv_iconst (v := 1) hx hb dX4_weight_254 (by decide) ?_
                      refine lv_isub hx hb dX4_weight_255 ?_
                      obtain ⟨h29, hf⟩ := gd_some hf
                      refine w_iald C hw (by decide) (EC_20 X _ _) h29 rfl dX4_weight_256 ?_
                      refine lv_if_ne (tgt := 264) hx hb dX4_weight_257 (by decide) (fun c30 => ?_) (fun c30 => ?_)
                      · replace hf := ite_f hf c30
                        refine lv_iconst (v := 0) hx hb dX4_weight_264 (by decide) ?_
                        obtain ⟨h31, hf⟩ := gd_some hf
                        obtain ⟨st32, es33⟩ : ∃ z : St, z = sI st 20 (v7 - (1 : Int32)).toNatClampNeg (0 : Int32) := ⟨_, rfl⟩
                        replace hf := bnd_nm hf es33
                        refine w_iast C hw (by decide) (fun f9 => EC_20 X f9 _) h31 rfl dX4_weight_265 (fun H locs hw => ?_)
                        rw [← es33] at hw
                        refine lv_goto (tgt := 342) hx hb dX4_weight_266 (by decide) ?_
                        obtain ⟨x34, e35⟩ : ∃ z : Int32, z = v9 + (1 : Int32) := ⟨_, rfl⟩
                        replace hf := bnd_nm hf e35
                        refine lv_iinc (v := x34) (lv' := [(9, .int x34), (10, .int x20), (0, .ref (xq X 17)), (7, .int v7), (8, .int v8)]) hx hb dX4_weight_342 hl (k := 4) rfl (by rw [e35]; rfl) (by decide) rfl (fun ls hl => ?_)
                        refine lv_goto (tgt := 89) hx hb dX4_weight_345 (by decide) ?_
                        exact ih st32 v7 v8 x34 _ _ _ hw (lv_sub hl [2, 3, 4, 0] rfl) hf
                      · replace hf := ite_t hf c30
                        refine lv_iconst (v := 1) hx hb dX4_weight_260 (by decide) ?_
                        refine lv_goto (tgt := 265) hx hb dX4_weight_261 (by decide) ?_
                        obtain ⟨h36, hf⟩ := gd_some hf
                        obtain ⟨st37, es38⟩ : ∃ z : St, z = sI st 20 (v7 - (1 : Int32)).toNatClampNeg (1 : Int32) := ⟨_, rfl⟩
                        replace hf := bnd_nm hf es38
                        refine w_iast C hw (by decide) (fun f9 => EC_20 X f9 _) h36 rfl dX4_weight_265 (fun H locs hw => ?_)
                        rw [← es38] at hw
                        refine lv_goto (tgt := 342) hx hb dX4_weight_266 (by decide) ?_
                        obtain ⟨x39, e40⟩ : ∃ z : Int32, z = v9 + (1 : Int32) := ⟨_, rfl⟩
                        replace hf := bnd_nm hf e40
                        refine lv_iinc (v := x39) (lv' := [(9, .int x39), (10, .int x20), (0, .ref (xq X 17)), (7, .int v7), (8, .int v8)]) hx hb dX4_weight_342 hl (k := 4) rfl (by rw [e40]; rfl) (by decide) rfl (fun ls hl => ?_)
                        refine lv_goto (tgt := 89) hx hb dX4_weight_345 (by decide) ?_
                        exact ih st37 v7 v8 x39 _ _ _ hw (lv_sub hl [2, 3, 4, 0] rfl) hf
                · replace hf := ite_t hf c26
                  refine lv_aload_n hx hb dX4_weight_206 rfl (lv_at hl 1 rfl) ?_
                  refine w_get (T := TX4) C hw (by decide) 3 kf_X4_18 (EC_17 X _ _) rfl inA4 (by decide) rfl dX4_weight_207 ?_
                  refine lv_iconst (v := 0) hx hb dX4_weight_210 (by decide) ?_
                  refine w_iald C hw (by decide) (EC_20 X _ _) (by decide) (show (0 : Int32).toNatClampNeg = 0 by decide) dX4_weight_211 ?_
                  refine lv_if_ne (tgt := 219) hx hb dX4_weight_212 (by decide) (fun c41 => ?_) (fun c41 => ?_)
                  · replace hf := ite_f hf c41
                    refine lv_iconst (v := 0) hx hb dX4_weight_219 (by decide) ?_
                    refine lv_istore (lv' := [(8, .int (0 : Int32)), (10, .int x20), (0, .ref (xq X 17)), (7, .int v7), (9, .int v9)]) hx hb dX4_weight_220 hl (by decide) rfl (fun ls hl => ?_)
                    refine lv_iconst (v := 0) hx hb dX4_weight_222 (by decide) ?_
                    refine lv_istore (lv' := [(7, .int (0 : Int32)), (8, .int (0 : Int32)), (10, .int x20), (0, .ref (xq X 17)), (9, .int v9)]) hx hb dX4_weight_223 hl (by decide) rfl (fun ls hl => ?_)
                    refine lv_goto (tgt := 342) hx hb dX4_weight_225 (by decide) ?_
                    obtain ⟨x42, e43⟩ : ∃ z : Int32, z = v9 + (1 : Int32) := ⟨_, rfl⟩
                    replace hf := bnd_nm hf e43
                    refine lv_iinc (v := x42) (lv' := [(9, .int x42), (7, .int (0 : Int32)), (8, .int (0 : Int32)), (10, .int x20), (0, .ref (xq X 17))]) hx hb dX4_weight_342 hl (k := 4) rfl (by rw [e43]; rfl) (by decide) rfl (fun ls hl => ?_)
                    refine lv_goto (tgt := 89) hx hb dX4_weight_345 (by decide) ?_
                    exact ih st (0 : Int32) (0 : Int32) x42 _ _ _ hw (lv_sub hl [4, 1, 2, 0] rfl) hf
                  · replace hf := ite_t hf c41
                    refine lv_iconst (v := 1) hx hb dX4_weight_215 (by decide) ?_
                    refine lv_goto (tgt := 220) hx hb dX4_weight_216 (by decide) ?_
                    refine lv_istore (lv' := [(8, .int (1 : Int32)), (10, .int x20), (0, .ref (xq X 17)), (7, .int v7), (9, .int v9)]) hx hb dX4_weight_220 hl (by decide) rfl (fun ls hl => ?_)
                    refine lv_iconst (v := 0) hx hb dX4_weight_222 (by decide) ?_
                    refine lv_istore (lv' := [(7, .int (0 : Int32)), (8, .int (1 : Int32)), (10, .int x20), (0, .ref (xq X 17)), (9, .int v9)]) hx hb dX4_weight_223 hl (by decide) rfl (fun ls hl => ?_)
                    refine lv_goto (tgt := 342) hx hb dX4_weight_225 (by decide) ?_
                    obtain ⟨x44, e45⟩ : ∃ z : Int32, z = v9 + (1 : Int32) := ⟨_, rfl⟩
                    replace hf := bnd_nm hf e45
                    refine lv_iinc (v := x44) (lv' := [(9, .int x44), (7, .int (0 : Int32)), (8, .int (1 : Int32)), (10, .int x20), (0, .ref (xq X 17))]) hx hb dX4_weight_342 hl (k := 4) rfl (by rw [e45]; rfl) (by decide) rfl (fun ls hl => ?_)
                    refine lv_goto (tgt := 89) hx hb dX4_weight_345 (by decide) ?_
                    exact ih st (0 : Int32) (1 : Int32) x44 _ _ _ hw (lv_sub hl [4, 1, 2, 0] rfl) hf
              · replace hf := ite_f hf c25
                refine lv_aload_n hx hb dX4_weight_177 rfl (lv_at hl 1 rfl) ?_
                refine w_get (T := TX4) C hw (by decide) 3 kf_X4_18 (EC_17 X _ _) rfl inA4 (by decide) rfl dX4_weight_178 ?_
                refine lv_iload hx hb dX4_weight_181 (lv_at hl 2 rfl) ?_
                obtain ⟨x46, e47⟩ : ∃ z : Int32, z = v7 + (1 : Int32) := ⟨_, rfl⟩
                replace hf := bnd_nm hf e47
                refine lv_iinc (v := x46) (lv' := [(7, .int x46), (10, .int x20), (0, .ref (xq X 17)), (8, .int v8), (9, .int v9)]) hx hb dX4_weight_183 hl (k := 2) rfl (by rw [e47]; rfl) (by decide) rfl (fun ls hl => ?_)
                refine lv_aload_n hx hb dX4_weight_186 rfl (lv_at hl 2 rfl) ?_
                refine w_get (T := TX4) C hw (by decide) 2 kf_X4_15 (EC_17 X _ _) rfl inA4 (by decide) rfl dX4_weight_187 ?_
                refine lv_iconst (v := -1) hx hb dX4_weight_190 (by decide) ?_
                refine lv_iload hx hb dX4_weight_191 (lv_at hl 1 rfl) ?_
                refine lv_isub hx hb dX4_weight_193 ?_
                obtain ⟨h48, hf⟩ := gd_some hf
                refine w_iald C hw (by decide) (EC_19 X _ _) h48 rfl dX4_weight_194 ?_
                obtain ⟨h49, hf⟩ := gd_some hf
                obtain ⟨st50, es51⟩ : ∃ z : St, z = sI st 20 v7.toNatClampNeg (gI st 19 ((-1 : Int32) - x20).toNatClampNeg) := ⟨_, rfl⟩
                replace hf := bnd_nm hf es51
                refine w_iast C hw (by decide) (fun f9 => EC_20 X f9 _) h49 rfl dX4_weight_195 (fun H locs hw => ?_)
                rw [← es51] at hw
                refine lv_goto (tgt := 342) hx hb dX4_weight_196 (by decide) ?_
                obtain ⟨x52, e53⟩ : ∃ z : Int32, z = v9 + (1 : Int32) := ⟨_, rfl⟩
                replace hf := bnd_nm hf e53
                refine lv_iinc (v := x52) (lv' := [(9, .int x52), (7, .int x46), (10, .int x20), (0, .ref (xq X 17)), (8, .int v8)]) hx hb dX4_weight_342 hl (k := 4) rfl (by rw [e53]; rfl) (by decide) rfl (fun ls hl => ?_)
                refine lv_goto (tgt := 89) hx hb dX4_weight_345 (by decide) ?_
                exact ih st50 x46 v8 x52 _ _ _ hw (lv_sub hl [3, 1, 4, 0] rfl) hf
            · replace hf := ite_f hf c24
              refine lv_aload_n hx hb dX4_weight_155 rfl (lv_at hl 1 rfl) ?_
              refine w_get (T := TX4) C hw (by decide) 3 kf_X4_18 (EC_17 X _ _) rfl inA4 (by decide) rfl dX4_weight_156 ?_
              refine lv_iload hx hb dX4_weight_159 (lv_at hl 2 rfl) ?_
              obtain ⟨x54, e55⟩ : ∃ z : Int32, z = v7 + (1 : Int32) := ⟨_, rfl⟩
              replace hf := bnd_nm hf e55
              refine lv_iinc (v := x54) (lv' := [(7, .int x54), (10, .int x20), (0, .ref (xq X 17)), (8, .int v8), (9, .int v9)]) hx hb dX4_weight_161 hl (k := 2) rfl (by rw [e55]; rfl) (by decide) rfl (fun ls hl => ?_)
              refine lv_iload hx hb dX4_weight_164 (lv_at hl 1 rfl) ?_
              obtain ⟨h56, hf⟩ := gd_some hf
              obtain ⟨st57, es58⟩ : ∃ z : St, z = sI st 20 v7.toNatClampNeg x20 := ⟨_, rfl⟩
              replace hf := bnd_nm hf es58
              refine w_iast C hw (by decide) (fun f9 => EC_20 X f9 _) h56 rfl dX4_weight_166 (fun H locs hw => ?_)
              rw [← es58] at hw
              refine lv_goto (tgt := 342) hx hb dX4_weight_167 (by decide) ?_
              obtain ⟨x59, e60⟩ : ∃ z : Int32, z = v9 + (1 : Int32) := ⟨_, rfl⟩
              replace hf := bnd_nm hf e60
              refine lv_iinc (v := x59) (lv' := [(9, .int x59), (7, .int x54), (10, .int x20), (0, .ref (xq X 17)), (8, .int v8)]) hx hb dX4_weight_342 hl (k := 4) rfl (by rw [e60]; rfl) (by decide) rfl (fun ls hl => ?_)
              refine lv_goto (tgt := 89) hx hb dX4_weight_345 (by decide) ?_
              exact ih st57 x54 v8 x59 _ _ _ hw (lv_sub hl [3, 1, 4, 0] rfl) hf
          · replace hf := ite_f hf c23
            refine lv_goto (tgt := 342) hx hb dX4_weight_147 (by decide) ?_
            obtain ⟨x61, e62⟩ : ∃ z : Int32, z = v9 + (1 : Int32) := ⟨_, rfl⟩
            replace hf := bnd_nm hf e62
            refine lv_iinc (v := x61) (lv' := [(9, .int x61), (10, .int x20), (0, .ref (xq X 17)), (7, .int v7), (8, .int v8)]) hx hb dX4_weight_342 hl (k := 4) rfl (by rw [e62]; rfl) (by decide) rfl (fun ls hl => ?_)
            refine lv_goto (tgt := 89) hx hb dX4_weight_345 (by decide) ?_
            exact ih st v7 v8 x61 _ _ _ hw (lv_sub hl [2, 3, 4, 0] rfl) hf
        · replace hf := ite_t hf c22
          refine lv_iload hx hb dX4_weight_124 (lv_at hl 3 rfl) ?_
          refine lv_if_ne (tgt := 136) hx hb dX4_weight_126 (by decide) (fun c63 => ?_) (fun c63 => ?_)
          · replace hf := ite_f hf c63
            refine lv_iconst (v := 0) hx hb dX4_weight_136 (by decide) ?_
            refine lv_istore (lv' := [(8, .int (0 : Int32)), (10, .int x20), (0, .ref (xq X 17)), (7, .int v7), (9, .int v9)]) hx hb dX4_weight_137 hl (by decide) rfl (fun ls hl => ?_)
            refine lv_goto (tgt := 342) hx hb dX4_weight_139 (by decide) ?_
            obtain ⟨x64, e65⟩ : ∃ z : Int32, z = v9 + (1 : Int32) := ⟨_, rfl⟩
            replace hf := bnd_nm hf e65
            refine lv_iinc (v := x64) (lv' := [(9, .int x64), (8, .int (0 : Int32)), (10, .int x20), (0, .ref (xq X 17)), (7, .int v7)]) hx hb dX4_weight_342 hl (k := 4) rfl (by rw [e65]; rfl) (by decide) rfl (fun ls hl => ?_)
            refine lv_goto (tgt := 89) hx hb dX4_weight_345 (by decide) ?_
            exact ih st v7 (0 : Int32) x64 _ _ _ hw (lv_sub hl [3, 4, 1, 0] rfl) hf
          · replace hf := ite_t hf c63
            refine lv_aload_n hx hb dX4_weight_129 rfl (lv_at hl 1 rfl) ?_
            refine w_get (T := TX4) C hw (by decide) 3 kf_X4_18 (EC_17 X _ _) rfl inA4 (by decide) rfl dX4_weight_130 ?_
            refine lv_iconst (v := 0) hx hb dX4_weight_133 (by decide) ?_
            refine w_iald C hw (by decide) (EC_20 X _ _) (by decide) (show (0 : Int32).toNatClampNeg = 0 by decide) dX4_weight_134 ?_
            exact w_iret C hw hr (so2 hf).1 (so2 hf).2 dX4_weight_135
def fX4_weight (n : Nat) (st : St) (a1 : Int32) (a2 : Int32) (a3 : Int32) (a4 : Int32) (a5 : Int32) (a6 : Int32) : Option (Int32 × St) := if gI st 17 1 = 0 then (if a5 = 0 then (if a2 = a3 then (some (((((10 : Int32) + a4) - a1) + (3 : Int32)), st)) else (some (((((10 : Int32) + a4) - a1) + (0 : Int32)), st))) else (some ((0 : Int32), st))) else (bnd (sI st 19 0 a1) (fun st2 => bnd (sI st2 19 1 a2) (fun st4 => bnd (sI st4 19 2 a3) (fun st6 => bnd (sI st6 19 3 a4) (fun st8 => bnd (sI st8 19 4 a5) (fun st10 => bnd (sI st10 19 5 a6) (fun st12 => fX4_weight_89 n n st12 (0 : Int32) (0 : Int32) (0 : Int32))))))))
set_option maxHeartbeats 4000000 in
theorem zX4_weight (l : Launch) (X : WX) (n : Nat) (st : St) (a1 : Int32) (a2 : Int32) (a3 : Int32) (a4 : Int32) (a5 : Int32) (a6 : Int32) (R : Int32 × St) (hf : fX4_weight n st a1 a2 a3 a4 a5 a6 = some R) : CtI l yX4_weight cX4_weight 11 .int ({ frames := 1, cells := 0, slots := 0, locals := 22 }) EC 65 X [.ref (xq X 17), .int a1, .int a2, .int a3, .int a4, .int a5, .int a6] st R.1 R.2 := by
  refine ct_in (own := RX4) (by decide +kernel) rfl (Nat.le_of_ble_eq_true rfl) (fun p e s m below meth c C hr hw ls hl => ?_)
  obtain ⟨hx, hb, hml, hown, hts⟩ := id C.1
  have hl : lv_has ls 11 [(0, .ref (xq X 17)), (1, .int a1), (2, .int a2), (3, .int a3), (4, .int a4), (5, .int a5), (6, .int a6)] := hl
  unfold fX4_weight at hf
  refine lv_aload_n hx hb dX4_weight_0 rfl (lv_at hl 0 rfl) ?_
  refine w_get (T := TX4) C hw (by decide) 1 kf_X4_21 (EC_17 X _ _) rfl inA4 (by decide) rfl dX4_weight_1 ?_
  refine lv_if_ne (tgt := 35) hx hb dX4_weight_4 (by decide) (fun c1 => ?_) (fun c1 => ?_)
  · replace hf := ite_f hf c1
    refine lv_aload_n hx hb dX4_weight_35 rfl (lv_at hl 0 rfl) ?_
    refine w_get (T := TX4) C hw (by decide) 2 kf_X4_15 (EC_17 X _ _) rfl inA4 (by decide) rfl dX4_weight_36 ?_
    refine lv_iconst (v := 0) hx hb dX4_weight_39 (by decide) ?_
    refine lv_iload_n hx hb dX4_weight_40 rfl (lv_at hl 1 rfl) ?_
    obtain ⟨st2, es3⟩ : ∃ z : St, z = sI st 19 0 a1 := ⟨_, rfl⟩
    replace hf := bnd_nm hf es3
    refine w_iast C hw (by decide) (fun f9 => EC_19 X f9 _) (by decide) (show (0 : Int32).toNatClampNeg = 0 by decide) dX4_weight_41 (fun H locs hw => ?_)
    rw [← es3] at hw
    refine lv_aload_n hx hb dX4_weight_42 rfl (lv_at hl 0 rfl) ?_
    refine w_get (T := TX4) C hw (by decide) 2 kf_X4_15 (EC_17 X _ _) rfl inA4 (by decide) rfl dX4_weight_43 ?_
    refine lv_iconst (v := 1) hx hb dX4_weight_46 (by decide) ?_
    refine lv_iload_n hx hb dX4_weight_47 rfl (lv_at hl 2 rfl) ?_
    obtain ⟨st4, es5⟩ : ∃ z : St, z = sI st2 19 1 a2 := ⟨_, rfl⟩
    replace hf := bnd_nm hf es5
    refine w_iast C hw (by decide) (fun f9 => EC_19 X f9 _) (by decide) (show (1 : Int32).toNatClampNeg = 1 by decide) dX4_weight_48 (fun H locs hw => ?_)
    rw [← es5] at hw
    refine lv_aload_n hx hb dX4_weight_49 rfl (lv_at hl 0 rfl) ?_
    refine w_get (T := TX4) C hw (by decide) 2 kf_X4_15 (EC_17 X _ _) rfl inA4 (by decide) rfl dX4_weight_50 ?_
    refine lv_iconst (v := 2) hx hb dX4_weight_53 (by decide) ?_
    refine lv_iload_n hx hb dX4_weight_54 rfl (lv_at hl 3 rfl) ?_
    obtain ⟨st6, es7⟩ : ∃ z : St, z = sI st4 19 2 a3 := ⟨_, rfl⟩
    replace hf := bnd_nm hf es7
    refine w_iast C hw (by decide) (fun f9 => EC_19 X f9 _) (by decide) (show (2 : Int32).toNatClampNeg = 2 by decide) dX4_weight_55 (fun H locs hw => ?_)
    rw [← es7] at hw
    refine lv_aload_n hx hb dX4_weight_56 rfl (lv_at hl 0 rfl) ?_
    refine w_get (T := TX4) C hw (by decide) 2 kf_X4_15 (EC_17 X _ _) rfl inA4 (by decide) rfl dX4_weight_57 ?_
    refine lv_iconst (v := 3) hx hb dX4_weight_60 (by decide) ?_
    refine lv_iload hx hb dX4_weight_61 (lv_at hl 4 rfl) ?_
    obtain ⟨st8, es9⟩ : ∃ z : St, z = sI st6 19 3 a4 := ⟨_, rfl⟩
    replace hf := bnd_nm hf es9
    refine w_iast C hw (by decide) (fun f9 => EC_19 X f9 _) (by decide) (show (3 : Int32).toNatClampNeg = 3 by decide) dX4_weight_63 (fun H locs hw => ?_)
    rw [← es9] at hw
    refine lv_aload_n hx hb dX4_weight_64 rfl (lv_at hl 0 rfl) ?_
    refine w_get (T := TX4) C hw (by decide) 2 kf_X4_15 (EC_17 X _ _) rfl inA4 (by decide) rfl dX4_weight_65 ?_
    refine lv_iconst (v := 4) hx hb dX4_weight_68 (by decide) ?_
    refine lv_iload hx hb dX4_weight_69 (lv_at hl 5 rfl) ?_
    obtain ⟨st10, es11⟩ : ∃ z : St, z = sI st8 19 4 a5 := ⟨_, rfl⟩
    replace hf := bnd_nm hf es11
    refine w_iast C hw (by decide) (fun f9 => EC_19 X f9 _) (by decide) (show (4 : Int32).toNatClampNeg = 4 by decide) dX4_weight_71 (fun H locs hw => ?_)
    rw [← es11] at hw
    refine lv_aload_n hx hb dX4_weight_72 rfl (lv_at hl 0 rfl) ?_
    refine w_get (T := TX4) C hw (by decide) 2 kf_X4_15 (EC_17 X _ _) rfl inA4 (by decide) rfl dX4_weight_73 ?_
    refine lv_iconst (v := 5) hx hb dX4_weight_76 (by decide) ?_
    refine lv_iload hx hb dX4_weight_77 (lv_at hl 6 rfl) ?_
    obtain ⟨st12, es13⟩ : ∃ z : St, z = sI st10 19 5 a6 := ⟨_, rfl⟩
    replace hf := bnd_nm hf es13
    refine w_iast C hw (by decide) (fun f9 => EC_19 X f9 _) (by decide) (show (5 : Int32).toNatClampNeg = 5 by decide) dX4_weight_79 (fun H locs hw => ?_)
    rw [← es13] at hw
    refine lv_iconst (v := 0) hx hb dX4_weight_80 (by decide) ?_
    refine lv_istore (lv' := [(7, .int (0 : Int32)), (0, .ref (xq X 17)), (1, .int a1), (2, .int a2), (3, .int a3), (4, .int a4), (5, .int a5), (6, .int a6)]) hx hb dX4_weight_81 hl (by decide) rfl (fun ls hl => ?_)
    refine lv_iconst (v := 0) hx hb dX4_weight_83 (by decide) ?_
    refine lv_istore (lv' := [(8, .int (0 : Int32)), (7, .int (0 : Int32)), (0, .ref (xq X 17)), (1, .int a1), (2, .int a2), (3, .int a3), (4, .int a4), (5, .int a5), (6, .int a6)]) hx hb dX4_weight_84 hl (by decide) rfl (fun ls hl => ?_)
    refine lv_iconst (v := 0) hx hb dX4_weight_86 (by decide) ?_
    refine lv_istore (lv' := [(9, .int (0 : Int32)), (8, .int (0 : Int32)), (7, .int (0 : Int32)), (0, .ref (xq X 17)), (1, .int a1), (2, .int a2), (3, .int a3), (4, .int a4), (5, .int a5), (6, .int a6)]) hx hb dX4_weight_87 hl (by decide) rfl (fun ls hl => ?_)
    exact tX4_weight_89 C hr n st12 (0 : Int32) (0 : Int32) (0 : Int32) _ _ _ hw (lv_sub hl [3, 2, 1, 0] rfl) hf
  · replace hf := ite_t hf c1
    refine lv_iload hx hb dX4_weight_7 (lv_at hl 5 rfl) ?_
    refine lv_if_eq (tgt := 16) hx hb dX4_weight_9 (by decide) (fun c14 => ?_) (fun c14 => ?_)
    · replace hf := ite_t hf c14
      refine lv_bipush (v := 10) hx hb dX4_weight_16 (by decide) ?_
      refine lv_iload hx hb dX4_weight_18 (lv_at hl 4 rfl) ?_
      refine lv_iadd hx hb dX4_weight_20 ?_
      refine lv_iload_n hx hb dX4_weight_21 rfl (lv_at hl 1 rfl) ?_
      refine lv_isub hx hb dX4_weight_22 ?_
      refine lv_iload_n hx hb dX4_weight_23 rfl (lv_at hl 2 rfl) ?_
      refine lv_iload_n hx hb dX4_weight_24 rfl (lv_at hl 3 rfl) ?_
      refine lv_icmp_ne (tgt := 32) hx hb dX4_weight_25 (by decide) (fun c15 => ?_) (fun c15 => ?_)
      · replace hf := ite_f hf c15
        refine lv_iconst (v := 0) hx hb dX4_weight_32 (by decide) ?_
        refine lv_iadd hx hb dX4_weight_33 ?_
        exact w_iret C hw hr (so2 hf).1 (so2 hf).2 dX4_weight_34
      · replace hf := ite_t hf c15
        refine lv_iconst (v := 3) hx hb dX4_weight_28 (by decide) ?_
        refine lv_goto (tgt := 33) hx hb dX4_weight_29 (by decide) ?_
        refine lv_iadd hx hb dX4_weight_33 ?_
        exact w_iret C hw hr (so2 hf).1 (so2 hf).2 dX4_weight_34
    · replace hf := ite_f hf c14
      refine lv_iconst (v := 0) hx hb dX4_weight_12 (by decide) ?_
      refine lv_goto (tgt := 34) hx hb dX4_weight_13 (by decide) ?_
      exact w_iret C hw hr (so2 hf).1 (so2 hf).2 dX4_weight_34
