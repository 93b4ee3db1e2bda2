theorem dX4_ofTwo_0 : decode cX4_ofTwo 0 = .ok (.iload_n 0, 1) := by decide +kernel
theorem dX4_ofTwo_1 : decode cX4_ofTwo 1 = .ok (.tableswitch 136 (-15) (-7) #[124, 120, 116, 112, 101, 90, 79, 65, 51], 51) := by decide +kernel
theorem dX4_ofTwo_52 : decode cX4_ofTwo 52 = .ok (.iload_n 1, 1) := by decide +kernel
theorem dX4_ofTwo_53 : decode cX4_ofTwo 53 = .ok (.ifCond .ne 7, 3) := by decide +kernel
theorem dX4_ofTwo_56 : decode cX4_ofTwo 56 = .ok (.iload_n 2, 1) := by decide +kernel
theorem dX4_ofTwo_57 : decode cX4_ofTwo 57 = .ok (.ifCond .eq 7, 3) := by decide +kernel
theorem dX4_ofTwo_60 : decode cX4_ofTwo 60 = .ok (.iconst 1, 1) := by decide +kernel
theorem dX4_ofTwo_61 : decode cX4_ofTwo 61 = .ok (.goto 4, 3) := by decide +kernel
theorem dX4_ofTwo_64 : decode cX4_ofTwo 64 = .ok (.iconst 0, 1) := by decide +kernel
theorem dX4_ofTwo_65 : decode cX4_ofTwo 65 = .ok (.ireturn, 1) := by decide +kernel
theorem dX4_ofTwo_66 : decode cX4_ofTwo 66 = .ok (.iload_n 1, 1) := by decide +kernel
theorem dX4_ofTwo_67 : decode cX4_ofTwo 67 = .ok (.ifCond .eq 11, 3) := by decide +kernel
theorem dX4_ofTwo_70 : decode cX4_ofTwo 70 = .ok (.iload_n 2, 1) := by decide +kernel
theorem dX4_ofTwo_71 : decode cX4_ofTwo 71 = .ok (.ifCond .eq 7, 3) := by decide +kernel
theorem dX4_ofTwo_74 : decode cX4_ofTwo 74 = .ok (.iconst 1, 1) := by decide +kernel
theorem dX4_ofTwo_75 : decode cX4_ofTwo 75 = .ok (.goto 4, 3) := by decide +kernel
theorem dX4_ofTwo_78 : decode cX4_ofTwo 78 = .ok (.iconst 0, 1) := by decide +kernel
theorem dX4_ofTwo_79 : decode cX4_ofTwo 79 = .ok (.ireturn, 1) := by decide +kernel
theorem dX4_ofTwo_80 : decode cX4_ofTwo 80 = .ok (.iload_n 1, 1) := by decide +kernel
theorem dX4_ofTwo_81 : decode cX4_ofTwo 81 = .ok (.iload_n 2, 1) := by decide +kernel
theorem dX4_ofTwo_82 : decode cX4_ofTwo 82 = .ok (.if_icmp .ge 7, 3) := by decide +kernel
theorem dX4_ofTwo_85 : decode cX4_ofTwo 85 = .ok (.iconst 1, 1) := by decide +kernel
theorem dX4_ofTwo_86 : decode cX4_ofTwo 86 = .ok (.goto 4, 3) := by decide +kernel
theorem dX4_ofTwo_89 : decode cX4_ofTwo 89 = .ok (.iconst 0, 1) := by decide +kernel
theorem dX4_ofTwo_90 : decode cX4_ofTwo 90 = .ok (.ireturn, 1) := by decide +kernel
theorem dX4_ofTwo_91 : decode cX4_ofTwo 91 = .ok (.iload_n 1, 1) := by decide +kernel
theorem dX4_ofTwo_92 : decode cX4_ofTwo 92 = .ok (.iload_n 2, 1) := by decide +kernel
theorem dX4_ofTwo_93 : decode cX4_ofTwo 93 = .ok (.if_icmp .ne 7, 3) := by decide +kernel
theorem dX4_ofTwo_96 : decode cX4_ofTwo 96 = .ok (.iconst 1, 1) := by decide +kernel
theorem dX4_ofTwo_97 : decode cX4_ofTwo 97 = .ok (.goto 4, 3) := by decide +kernel
theorem dX4_ofTwo_100 : decode cX4_ofTwo 100 = .ok (.iconst 0, 1) := by decide +kernel
theorem dX4_ofTwo_101 : decode cX4_ofTwo 101 = .ok (.ireturn, 1) := by decide +kernel
theorem dX4_ofTwo_102 : decode cX4_ofTwo 102 = .ok (.iload_n 1, 1) := by decide +kernel
theorem dX4_ofTwo_103 : decode cX4_ofTwo 103 = .ok (.iload_n 2, 1) := by decide +kernel
theorem dX4_ofTwo_104 : decode cX4_ofTwo 104 = .ok (.if_icmp .le 7, 3) := by decide +kernel
theorem dX4_ofTwo_107 : decode cX4_ofTwo 107 = .ok (.iconst 1, 1) := by decide +kernel
theorem dX4_ofTwo_108 : decode cX4_ofTwo 108 = .ok (.goto 4, 3) := by decide +kernel
theorem dX4_ofTwo_111 : decode cX4_ofTwo 111 = .ok (.iconst 0, 1) := by decide +kernel
theorem dX4_ofTwo_112 : decode cX4_ofTwo 112 = .ok (.ireturn, 1) := by decide +kernel
theorem dX4_ofTwo_113 : decode cX4_ofTwo 113 = .ok (.iload_n 1, 1) := by decide +kernel
theorem dX4_ofTwo_114 : decode cX4_ofTwo 114 = .ok (.iload_n 2, 1) := by decide +kernel
theorem dX4_ofTwo_115 : decode cX4_ofTwo 115 = .ok (.iadd, 1) := by decide +kernel
theorem dX4_ofTwo_116 : decode cX4_ofTwo 116 = .ok (.ireturn, 1) := by decide +kernel
theorem dX4_ofTwo_117 : decode cX4_ofTwo 117 = .ok (.iload_n 1, 1) := by decide +kernel
theorem dX4_ofTwo_118 : decode cX4_ofTwo 118 = .ok (.iload_n 2, 1) := by decide +kernel
theorem dX4_ofTwo_119 : decode cX4_ofTwo 119 = .ok (.isub, 1) := by decide +kernel
theorem dX4_ofTwo_120 : decode cX4_ofTwo 120 = .ok (.ireturn, 1) := by decide +kernel
theorem dX4_ofTwo_121 : decode cX4_ofTwo 121 = .ok (.iload_n 1, 1) := by decide +kernel
theorem dX4_ofTwo_122 : decode cX4_ofTwo 122 = .ok (.iload_n 2, 1) := by decide +kernel
theorem dX4_ofTwo_123 : decode cX4_ofTwo 123 = .ok (.imul, 1) := by decide +kernel
theorem dX4_ofTwo_124 : decode cX4_ofTwo 124 = .ok (.ireturn, 1) := by decide +kernel
theorem dX4_ofTwo_125 : decode cX4_ofTwo 125 = .ok (.iload_n 2, 1) := by decide +kernel
theorem dX4_ofTwo_126 : decode cX4_ofTwo 126 = .ok (.ifCond .ne 7, 3) := by decide +kernel
theorem dX4_ofTwo_129 : decode cX4_ofTwo 129 = .ok (.iconst 0, 1) := by decide +kernel
theorem dX4_ofTwo_130 : decode cX4_ofTwo 130 = .ok (.goto 6, 3) := by decide +kernel
theorem dX4_ofTwo_133 : decode cX4_ofTwo 133 = .ok (.iload_n 1, 1) := by decide +kernel
theorem dX4_ofTwo_134 : decode cX4_ofTwo 134 = .ok (.iload_n 2, 1) := by decide +kernel
theorem dX4_ofTwo_135 : decode cX4_ofTwo 135 = .ok (.idiv, 1) := by decide +kernel
theorem dX4_ofTwo_136 : decode cX4_ofTwo 136 = .ok (.ireturn, 1) := by decide +kernel
theorem dX4_ofTwo_137 : decode cX4_ofTwo 137 = .ok (.iload_n 2, 1) := by decide +kernel
theorem dX4_ofTwo_138 : decode cX4_ofTwo 138 = .ok (.ifCond .ne 7, 3) := by decide +kernel
theorem dX4_ofTwo_141 : decode cX4_ofTwo 141 = .ok (.iconst 0, 1) := by decide +kernel
theorem dX4_ofTwo_142 : decode cX4_ofTwo 142 = .ok (.goto 6, 3) := by decide +kernel
theorem dX4_ofTwo_145 : decode cX4_ofTwo 145 = .ok (.iload_n 1, 1) := by decide +kernel
theorem dX4_ofTwo_146 : decode cX4_ofTwo 146 = .ok (.iload_n 2, 1) := by decide +kernel
theorem dX4_ofTwo_147 : decode cX4_ofTwo 147 = .ok (.irem, 1) := by decide +kernel
theorem dX4_ofTwo_148 : decode cX4_ofTwo 148 = .ok (.ireturn, 1) := by decide +kernel
theorem ok_yX4_ofTwo : yOk yX4_ofTwo 3 := ⟨by decide +kernel, by decide +kernel, by decide +kernel⟩
def fX4_ofTwo (a0 : Int32) (a1 : Int32) (a2 : Int32) : Int32 := if a0 = -15 then (if a2 = 0 then ((0 : Int32)) else ((a1 / a2))) else (if a0 = -14 then ((a1 * a2)) else (if a0 = -13 then ((a1 - a2)) else (if a0 = -12 then ((a1 + a2)) else (if a0 = -11 then (if a1 ≤ a2 then ((0 : Int32)) else ((1 : Int32))) else (if a0 = -10 then (if a1 = a2 then ((1 : Int32)) else ((0 : Int32))) else (if a0 = -9 then (if a2 ≤ a1 then ((0 : Int32)) else ((1 : Int32))) else (if a0 = -8 then (if a1 = 0 then ((0 : Int32)) else (if a2 = 0 then ((0 : Int32)) else ((1 : Int32)))) else (if a0 = -7 then (if a1 = 0 then (if a2 = 0 then ((0 : Int32)) else ((1 : Int32))) else ((1 : Int32))) else (if a2 = 0 then ((0 : Int32)) else ((rmI a1 a2)))))))))))
set_option maxHeartbeats 4000000 in
theorem zX4_ofTwo (l : Launch) (X : WX) (st : St) (a0 : Int32) (a1 : Int32) (a2 : Int32) : CtI l yX4_ofTwo cX4_ofTwo 3 .int ({ frames := 0, cells := 0, slots := 0, locals := 0 }) EC 65 X [.int a0, .int a1, .int a2] st (fX4_ofTwo a0 a1 a2) st := by
  generalize hf : fX4_ofTwo a0 a1 a2 = R
  refine ct_in (own := RX4) (by decide +kernel) rfl (Nat.le_of_ble_eq_true rfl) (fun p e s m below meth c C hr hw ls hl => ?_)
  obtain ⟨hx, hb, hml, hown, hts⟩ := id C.1
  have hl : lv_has ls 3 [(0, .int a0), (1, .int a1), (2, .int a2)] := hl
  unfold fX4_ofTwo at hf
  refine lv_iload_n hx hb dX4_ofTwo_0 rfl (lv_at hl 0 rfl) ?_
  by_cases c1 : a0 = -15
  · replace hf := ite_t hf c1
    refine lv_tableIn (tgt := 125) hx hb dX4_ofTwo_1 (by rw [c1]; decide) (by rw [c1]; decide) (by rw [c1]; rfl) (by decide) ?_
    refine lv_iload_n hx hb dX4_ofTwo_125 rfl (lv_at hl 2 rfl) ?_
    refine lv_if_ne (tgt := 133) hx hb dX4_ofTwo_126 (by decide) (fun c2 => ?_) (fun c2 => ?_)
    · replace hf := ite_f hf c2
      refine lv_iload_n hx hb dX4_ofTwo_133 rfl (lv_at hl 1 rfl) ?_
      refine lv_iload_n hx hb dX4_ofTwo_134 rfl (lv_at hl 2 rfl) ?_
      refine lv_idiv hx hb dX4_ofTwo_135 c2 ?_
      exact w_iret C hw hr hf rfl dX4_ofTwo_136
    · replace hf := ite_t hf c2
      refine lv_iconst (v := 0) hx hb dX4_ofTwo_129 (by decide) ?_
      refine lv_goto (tgt := 136) hx hb dX4_ofTwo_130 (by decide) ?_
      exact w_iret C hw hr hf rfl dX4_ofTwo_136
  · replace hf := ite_f hf c1
    by_cases c3 : a0 = -14
    · replace hf := ite_t hf c3
      refine lv_tableIn (tgt := 121) hx hb dX4_ofTwo_1 (by rw [c3]; decide) (by rw [c3]; decide) (by rw [c3]; rfl) (by decide) ?_
      refine lv_iload_n hx hb dX4_ofTwo_121 rfl (lv_at hl 1 rfl) ?_
      refine lv_iload_n hx hb dX4_ofTwo_122 rfl (lv_at hl 2 rfl) ?_
      refine lv_imul hx hb dX4_ofTwo_123 ?_
      exact w_iret C hw hr hf rfl dX4_ofTwo_124
    · replace hf := ite_f hf c3
      by_cases c4 : a0 = -13
      · replace hf := ite_t hf c4
        refine lv_tableIn (tgt := 117) hx hb dX4_ofTwo_1 (by rw [c4]; decide) (by rw [c4]; decide) (by rw [c4]; rfl) (by decide) ?_
        refine lv_iload_n hx hb dX4_ofTwo_117 rfl (lv_at hl 1 rfl) ?_
        refine lv_iload_n hx hb dX4_ofTwo_118 rfl (lv_at hl 2 rfl) ?_
        refine lv_isub hx hb dX4_ofTwo_119 ?_
        exact w_iret C hw hr hf rfl dX4_ofTwo_120
      · replace hf := ite_f hf c4
        by_cases c5 : a0 = -12
        · replace hf := ite_t hf c5
          refine lv_tableIn (tgt := 113) hx hb dX4_ofTwo_1 (by rw [c5]; decide) (by rw [c5]; decide) (by rw [c5]; rfl) (by decide) ?_
          refine lv_iload_n hx hb dX4_ofTwo_113 rfl (lv_at hl 1 rfl) ?_
          refine lv_iload_n hx hb dX4_ofTwo_114 rfl (lv_at hl 2 rfl) ?_
          refine lv_iadd hx hb dX4_ofTwo_115 ?_
          exact w_iret C hw hr hf rfl dX4_ofTwo_116
        · replace hf := ite_f hf c5
          by_cases c6 : a0 = -11
          · replace hf := ite_t hf c6
            refine lv_tableIn (tgt := 102) hx hb dX4_ofTwo_1 (by rw [c6]; decide) (by rw [c6]; decide) (by rw [c6]; rfl) (by decide) ?_
            refine lv_iload_n hx hb dX4_ofTwo_102 rfl (lv_at hl 1 rfl) ?_
            refine lv_iload_n hx hb dX4_ofTwo_103 rfl (lv_at hl 2 rfl) ?_
            refine lv_icmp_le (tgt := 111) hx hb dX4_ofTwo_104 (by decide) (fun c7 => ?_) (fun c7 => ?_)
            · replace hf := ite_t hf c7
              refine lv_iconst (v := 0) hx hb dX4_ofTwo_111 (by decide) ?_
              exact w_iret C hw hr hf rfl dX4_ofTwo_112
            · replace hf := ite_f hf c7
              refine lv_iconst (v := 1) hx hb dX4_ofTwo_107 (by decide) ?_
              refine lv_goto (tgt := 112) hx hb dX4_ofTwo_108 (by decide) ?_
              exact w_iret C hw hr hf rfl dX4_ofTwo_112
          · replace hf := ite_f hf c6
            by_cases c8 : a0 = -10
            · replace hf := ite_t hf c8
              refine lv_tableIn (tgt := 91) hx hb dX4_ofTwo_1 (by rw [c8]; decide) (by rw [c8]; decide) (by rw [c8]; rfl) (by decide) ?_
              refine lv_iload_n hx hb dX4_ofTwo_91 rfl (lv_at hl 1 rfl) ?_
              refine lv_iload_n hx hb dX4_ofTwo_92 rfl (lv_at hl 2 rfl) ?_
              refine lv_icmp_ne (tgt := 100) hx hb dX4_ofTwo_93 (by decide) (fun c9 => ?_) (fun c9 => ?_)
              · replace hf := ite_f hf c9
                refine lv_iconst (v := 0) hx hb dX4_ofTwo_100 (by decide) ?_
                exact w_iret C hw hr hf rfl dX4_ofTwo_101
              · replace hf := ite_t hf c9
                refine lv_iconst (v := 1) hx hb dX4_ofTwo_96 (by decide) ?_
                refine lv_goto (tgt := 101) hx hb dX4_ofTwo_97 (by decide) ?_
                exact w_iret C hw hr hf rfl dX4_ofTwo_101
            · replace hf := ite_f hf c8
              by_cases c10 : a0 = -9
              · replace hf := ite_t hf c10
                refine lv_tableIn (tgt := 80) hx hb dX4_ofTwo_1 (by rw [c10]; decide) (by rw [c10]; decide) (by rw [c10]; rfl) (by decide) ?_
                refine lv_iload_n hx hb dX4_ofTwo_80 rfl (lv_at hl 1 rfl) ?_
                refine lv_iload_n hx hb dX4_ofTwo_81 rfl (lv_at hl 2 rfl) ?_
                refine lv_icmp_ge (tgt := 89) hx hb dX4_ofTwo_82 (by decide) (fun c11 => ?_) (fun c11 => ?_)
                · replace hf := ite_t hf c11
                  refine lv_iconst (v := 0) hx hb dX4_ofTwo_89 (by decide) ?_
                  exact w_iret C hw hr hf rfl dX4_ofTwo_90
                · replace hf := ite_f hf c11
                  refine lv_iconst (v := 1) hx hb dX4_ofTwo_85 (by decide) ?_
                  refine lv_goto (tgt := 90) hx hb dX4_ofTwo_86 (by decide) ?_
                  exact w_iret C hw hr hf rfl dX4_ofTwo_90
              · replace hf := ite_f hf c10
                by_cases c12 : a0 = -8
                · replace hf := ite_t hf c12
                  refine lv_tableIn (tgt := 66) hx hb dX4_ofTwo_1 (by rw [c12]; decide) (by rw [c12]; decide) (by rw [c12]; rfl) (by decide) ?_
                  refine lv_iload_n hx hb dX4_ofTwo_66 rfl (lv_at hl 1 rfl) ?_
                  refine lv_if_eq (tgt := 78) hx hb dX4_ofTwo_67 (by decide) (fun c13 => ?_) (fun c13 => ?_)
                  · replace hf := ite_t hf c13
                    refine lv_iconst (v := 0) hx hb dX4_ofTwo_78 (by decide) ?_
                    exact w_iret C hw hr hf rfl dX4_ofTwo_79
                  · replace hf := ite_f hf c13
                    refine lv_iload_n hx hb dX4_ofTwo_70 rfl (lv_at hl 2 rfl) ?_
                    refine lv_if_eq (tgt := 78) hx hb dX4_ofTwo_71 (by decide) (fun c14 => ?_) (fun c14 => ?_)
                    · replace hf := ite_t hf c14
                      refine lv_iconst (v := 0) hx hb dX4_ofTwo_78 (by decide) ?_
                      exact w_iret C hw hr hf rfl dX4_ofTwo_79
                    · replace hf := ite_f hf c14
                      refine lv_iconst (v := 1) hx hb dX4_ofTwo_74 (by decide) ?_
                      refine lv_goto (tgt := 79) hx hb dX4_ofTwo_75 (by decide) ?_
                      exact w_iret C hw hr hf rfl dX4_ofTwo_79
                · replace hf := ite_f hf c12
                  by_cases c15 : a0 = -7
                  · replace hf := ite_t hf c15
                    refine lv_tableIn (tgt := 52) hx hb dX4_ofTwo_1 (by rw [c15]; decide) (by rw [c15]; decide) (by rw [c15]; rfl) (by decide) ?_
                    refine lv_iload_n hx hb dX4_ofTwo_52 rfl (lv_at hl 1 rfl) ?_
                    refine lv_if_ne (tgt := 60) hx hb dX4_ofTwo_53 (by decide) (fun c16 => ?_) (fun c16 => ?_)
                    · replace hf := ite_f hf c16
                      refine lv_iconst (v := 1) hx hb dX4_ofTwo_60 (by decide) ?_
                      refine lv_goto (tgt := 65) hx hb dX4_ofTwo_61 (by decide) ?_
                      exact w_iret C hw hr hf rfl dX4_ofTwo_65
                    · replace hf := ite_t hf c16
                      refine lv_iload_n hx hb dX4_ofTwo_56 rfl (lv_at hl 2 rfl) ?_
                      refine lv_if_eq (tgt := 64) hx hb dX4_ofTwo_57 (by decide) (fun c17 => ?_) (fun c17 => ?_)
                      · replace hf := ite_t hf c17
                        refine lv_iconst (v := 0) hx hb dX4_ofTwo_64 (by decide) ?_
                        exact w_iret C hw hr hf rfl dX4_ofTwo_65
                      · replace hf := ite_f hf c17
                        refine lv_iconst (v := 1) hx hb dX4_ofTwo_60 (by decide) ?_
                        refine lv_goto (tgt := 65) hx hb dX4_ofTwo_61 (by decide) ?_
                        exact w_iret C hw hr hf rfl dX4_ofTwo_65
                  · replace hf := ite_f hf c15
                    refine lv_tableOut (tgt := 137) hx hb dX4_ofTwo_1 (by have q0 := ne_toInt (a := -15) c1 (by decide); have q1 := ne_toInt (a := -14) c3 (by decide); have q2 := ne_toInt (a := -13) c4 (by decide); have q3 := ne_toInt (a := -12) c5 (by decide); have q4 := ne_toInt (a := -11) c6 (by decide); have q5 := ne_toInt (a := -10) c8 (by decide); have q6 := ne_toInt (a := -9) c10 (by decide); have q7 := ne_toInt (a := -8) c12 (by decide); have q8 := ne_toInt (a := -7) c15 (by decide); omega) (by decide) ?_
                    refine lv_iload_n hx hb dX4_ofTwo_137 rfl (lv_at hl 2 rfl) ?_
                    refine lv_if_ne (tgt := 145) hx hb dX4_ofTwo_138 (by decide) (fun c18 => ?_) (fun c18 => ?_)
                    · replace hf := ite_f hf c18
                      refine lv_iload_n hx hb dX4_ofTwo_145 rfl (lv_at hl 1 rfl) ?_
                      refine lv_iload_n hx hb dX4_ofTwo_146 rfl (lv_at hl 2 rfl) ?_
                      refine w_irem C c18 dX4_ofTwo_147 ?_
                      exact w_iret C hw hr hf rfl dX4_ofTwo_148
                    · replace hf := ite_t hf c18
                      refine lv_iconst (v := 0) hx hb dX4_ofTwo_141 (by decide) ?_
                      refine lv_goto (tgt := 148) hx hb dX4_ofTwo_142 (by decide) ?_
                      exact w_iret C hw hr hf rfl dX4_ofTwo_148
theorem dX4_weight_0 : decode cX4_weight 0 = .ok (.aload_n 0, 1) := by decide +kernel
theorem dX4_weight_1 : decode cX4_weight 1 = .ok (.getfield 21, 3) := by decide +kernel
theorem dX4_weight_4 : decode cX4_weight 4 = .ok (.ifCond .ne 31, 3) := by decide +kernel
theorem dX4_weight_7 : decode cX4_weight 7 = .ok (.iload 5, 2) := by decide +kernel
theorem dX4_weight_9 : decode cX4_weight 9 = .ok (.ifCond .eq 7, 3) := by decide +kernel
theorem dX4_weight_12 : decode cX4_weight 12 = .ok (.iconst 0, 1) := by decide +kernel
theorem dX4_weight_13 : decode cX4_weight 13 = .ok (.goto 21, 3) := by decide +kernel
theorem dX4_weight_16 : decode cX4_weight 16 = .ok (.bipush 10, 2) := by decide +kernel
theorem dX4_weight_18 : decode cX4_weight 18 = .ok (.iload 4, 2) := by decide +kernel
theorem dX4_weight_20 : decode cX4_weight 20 = .ok (.iadd, 1) := by decide +kernel
theorem dX4_weight_21 : decode cX4_weight 21 = .ok (.iload_n 1, 1) := by decide +kernel
theorem dX4_weight_22 : decode cX4_weight 22 = .ok (.isub, 1) := by decide +kernel
theorem dX4_weight_23 : decode cX4_weight 23 = .ok (.iload_n 2, 1) := by decide +kernel
theorem dX4_weight_24 : decode cX4_weight 24 = .ok (.iload_n 3, 1) := by decide +kernel
theorem dX4_weight_25 : decode cX4_weight 25 = .ok (.if_icmp .ne 7, 3) := by decide +kernel
theorem dX4_weight_28 : decode cX4_weight 28 = .ok (.iconst 3, 1) := by decide +kernel
theorem dX4_weight_29 : decode cX4_weight 29 = .ok (.goto 4, 3) := by decide +kernel
theorem dX4_weight_32 : decode cX4_weight 32 = .ok (.iconst 0, 1) := by decide +kernel
theorem dX4_weight_33 : decode cX4_weight 33 = .ok (.iadd, 1) := by decide +kernel
theorem dX4_weight_34 : decode cX4_weight 34 = .ok (.ireturn, 1) := by decide +kernel
theorem dX4_weight_35 : decode cX4_weight 35 = .ok (.aload_n 0, 1) := by decide +kernel
theorem dX4_weight_36 : decode cX4_weight 36 = .ok (.getfield 15, 3) := by decide +kernel
theorem dX4_weight_39 : decode cX4_weight 39 = .ok (.iconst 0, 1) := by decide +kernel
theorem dX4_weight_40 : decode cX4_weight 40 = .ok (.iload_n 1, 1) := by decide +kernel
theorem dX4_weight_41 : decode cX4_weight 41 = .ok (.iastore, 1) := by decide +kernel
theorem dX4_weight_42 : decode cX4_weight 42 = .ok (.aload_n 0, 1) := by decide +kernel
theorem dX4_weight_43 : decode cX4_weight 43 = .ok (.getfield 15, 3) := by decide +kernel
theorem dX4_weight_46 : decode cX4_weight 46 = .ok (.iconst 1, 1) := by decide +kernel
theorem dX4_weight_47 : decode cX4_weight 47 = .ok (.iload_n 2, 1) := by decide +kernel
theorem dX4_weight_48 : decode cX4_weight 48 = .ok (.iastore, 1) := by decide +kernel
theorem dX4_weight_49 : decode cX4_weight 49 = .ok (.aload_n 0, 1) := by decide +kernel
theorem dX4_weight_50 : decode cX4_weight 50 = .ok (.getfield 15, 3) := by decide +kernel
theorem dX4_weight_53 : decode cX4_weight 53 = .ok (.iconst 2, 1) := by decide +kernel
theorem dX4_weight_54 : decode cX4_weight 54 = .ok (.iload_n 3, 1) := by decide +kernel
theorem dX4_weight_55 : decode cX4_weight 55 = .ok (.iastore, 1) := by decide +kernel
theorem dX4_weight_56 : decode cX4_weight 56 = .ok (.aload_n 0, 1) := by decide +kernel
theorem dX4_weight_57 : decode cX4_weight 57 = .ok (.getfield 15, 3) := by decide +kernel
theorem dX4_weight_60 : decode cX4_weight 60 = .ok (.iconst 3, 1) := by decide +kernel
theorem dX4_weight_61 : decode cX4_weight 61 = .ok (.iload 4, 2) := by decide +kernel
theorem dX4_weight_63 : decode cX4_weight 63 = .ok (.iastore, 1) := by decide +kernel
theorem dX4_weight_64 : decode cX4_weight 64 = .ok (.aload_n 0, 1) := by decide +kernel
theorem dX4_weight_65 : decode cX4_weight 65 = .ok (.getfield 15, 3) := by decide +kernel
theorem dX4_weight_68 : decode cX4_weight 68 = .ok (.iconst 4, 1) := by decide +kernel
theorem dX4_weight_69 : decode cX4_weight 69 = .ok (.iload 5, 2) := by decide +kernel
theorem dX4_weight_71 : decode cX4_weight 71 = .ok (.iastore, 1) := by decide +kernel
theorem dX4_weight_72 : decode cX4_weight 72 = .ok (.aload_n 0, 1) := by decide +kernel
theorem dX4_weight_73 : decode cX4_weight 73 = .ok (.getfield 15, 3) := by decide +kernel
theorem dX4_weight_76 : decode cX4_weight 76 = .ok (.iconst 5, 1) := by decide +kernel
theorem dX4_weight_77 : decode cX4_weight 77 = .ok (.iload 6, 2) := by decide +kernel
theorem dX4_weight_79 : decode cX4_weight 79 = .ok (.iastore, 1) := by decide +kernel
theorem dX4_weight_80 : decode cX4_weight 80 = .ok (.iconst 0, 1) := by decide +kernel
theorem dX4_weight_81 : decode cX4_weight 81 = .ok (.istore 7, 2) := by decide +kernel
theorem dX4_weight_83 : decode cX4_weight 83 = .ok (.iconst 0, 1) := by decide +kernel
theorem dX4_weight_84 : decode cX4_weight 84 = .ok (.istore 8, 2) := by decide +kernel
theorem dX4_weight_86 : decode cX4_weight 86 = .ok (.iconst 0, 1) := by decide +kernel
theorem dX4_weight_87 : decode cX4_weight 87 = .ok (.istore 9, 2) := by decide +kernel
theorem dX4_weight_89 : decode cX4_weight 89 = .ok (.iload 9, 2) := by decide +kernel
theorem dX4_weight_91 : decode cX4_weight 91 = .ok (.aload_n 0, 1) := by decide +kernel
theorem dX4_weight_92 : decode cX4_weight 92 = .ok (.getfield 21, 3) := by decide +kernel
theorem dX4_weight_95 : decode cX4_weight 95 = .ok (.if_icmp .ge 227, 3) := by decide +kernel
theorem dX4_weight_98 : decode cX4_weight 98 = .ok (.aload_n 0, 1) := by decide +kernel
theorem dX4_weight_99 : decode cX4_weight 99 = .ok (.getfield 9, 3) := by decide +kernel
theorem dX4_weight_102 : decode cX4_weight 102 = .ok (.iload 9, 2) := by decide +kernel
theorem dX4_weight_104 : decode cX4_weight 104 = .ok (.iaload, 1) := by decide +kernel
theorem dX4_weight_105 : decode cX4_weight 105 = .ok (.istore 10, 2) := by decide +kernel
theorem dX4_weight_107 : decode cX4_weight 107 = .ok (.iload 10, 2) := by decide +kernel
theorem dX4_weight_109 : decode cX4_weight 109 = .ok (.bipush (-20), 2) := by decide +kernel
theorem dX4_weight_111 : decode cX4_weight 111 = .ok (.if_icmp .ne 21, 3) := by decide +kernel
theorem dX4_weight_114 : decode cX4_weight 114 = .ok (.iload 8, 2) := by decide +kernel
theorem dX4_weight_116 : decode cX4_weight 116 = .ok (.ifCond .ne 10, 3) := by decide +kernel
theorem dX4_weight_119 : decode cX4_weight 119 = .ok (.aload_n 0, 1) := by decide +kernel
theorem dX4_weight_120 : decode cX4_weight 120 = .ok (.getfield 18, 3) := by decide +kernel
theorem dX4_weight_123 : decode cX4_weight 123 = .ok (.iconst 0, 1) := by decide +kernel
theorem dX4_weight_124 : decode cX4_weight 124 = .ok (.iaload, 1) := by decide +kernel
theorem dX4_weight_125 : decode cX4_weight 125 = .ok (.ireturn, 1) := by decide +kernel
theorem dX4_weight_126 : decode cX4_weight 126 = .ok (.iconst 0, 1) := by decide +kernel
theorem dX4_weight_127 : decode cX4_weight 127 = .ok (.istore 8, 2) := by decide +kernel
theorem dX4_weight_129 : decode cX4_weight 129 = .ok (.goto 187, 3) := by decide +kernel
theorem dX4_weight_132 : decode cX4_weight 132 = .ok (.iload 8, 2) := by decide +kernel
theorem dX4_weight_134 : decode cX4_weight 134 = .ok (.ifCond .eq 6, 3) := by decide +kernel
theorem dX4_weight_137 : decode cX4_weight 137 = .ok (.goto 179, 3) := by decide +kernel
theorem dX4_weight_140 : decode cX4_weight 140 = .ok (.iload 10, 2) := by decide +kernel
theorem dX4_weight_142 : decode cX4_weight 142 = .ok (.ifCond .lt 18, 3) := by decide +kernel
theorem dX4_weight_145 : decode cX4_weight 145 = .ok (.aload_n 0, 1) := by decide +kernel
theorem dX4_weight_146 : decode cX4_weight 146 = .ok (.getfield 18, 3) := by decide +kernel
theorem dX4_weight_149 : decode cX4_weight 149 = .ok (.iload 7, 2) := by decide +kernel
theorem dX4_weight_151 : decode cX4_weight 151 = .ok (.iinc 7 1, 3) := by decide +kernel
theorem dX4_weight_154 : decode cX4_weight 154 = .ok (.iload 10, 2) := by decide +kernel
theorem dX4_weight_156 : decode cX4_weight 156 = .ok (.iastore, 1) := by decide +kernel
theorem dX4_weight_157 : decode cX4_weight 157 = .ok (.goto 159, 3) := by decide +kernel
theorem dX4_weight_160 : decode cX4_weight 160 = .ok (.iload 10, 2) := by decide +kernel
theorem dX4_weight_162 : decode cX4_weight 162 = .ok (.bipush (-6), 2) := by decide +kernel
theorem dX4_weight_164 : decode cX4_weight 164 = .ok (.if_icmp .lt 25, 3) := by decide +kernel
theorem dX4_weight_167 : decode cX4_weight 167 = .ok (.aload_n 0, 1) := by decide +kernel
theorem dX4_weight_168 : decode cX4_weight 168 = .ok (.getfield 18, 3) := by decide +kernel
theorem dX4_weight_171 : decode cX4_weight 171 = .ok (.iload 7, 2) := by decide +kernel
theorem dX4_weight_173 : decode cX4_weight 173 = .ok (.iinc 7 1, 3) := by decide +kernel
theorem dX4_weight_176 : decode cX4_weight 176 = .ok (.aload_n 0, 1) := by decide +kernel
theorem dX4_weight_177 : decode cX4_weight 177 = .ok (.getfield 15, 3) := by decide +kernel
theorem dX4_weight_180 : decode cX4_weight 180 = .ok (.iconst (-1), 1) := by decide +kernel
theorem dX4_weight_181 : decode cX4_weight 181 = .ok (.iload 10, 2) := by decide +kernel
theorem dX4_weight_183 : decode cX4_weight 183 = .ok (.isub, 1) := by decide +kernel
theorem dX4_weight_184 : decode cX4_weight 184 = .ok (.iaload, 1) := by decide +kernel
theorem dX4_weight_185 : decode cX4_weight 185 = .ok (.iastore, 1) := by decide +kernel
theorem dX4_weight_186 : decode cX4_weight 186 = .ok (.goto 130, 3) := by decide +kernel
theorem dX4_weight_189 : decode cX4_weight 189 = .ok (.iload 10, 2) := by decide +kernel
theorem dX4_weight_191 : decode cX4_weight 191 = .ok (.bipush (-19), 2) := by decide +kernel
theorem dX4_weight_193 : decode cX4_weight 193 = .ok (.if_icmp .ne 25, 3) := by decide +kernel
theorem dX4_weight_196 : decode cX4_weight 196 = .ok (.aload_n 0, 1) := by decide +kernel
theorem dX4_weight_197 : decode cX4_weight 197 = .ok (.getfield 18, 3) := by decide +kernel
theorem dX4_weight_200 : decode cX4_weight 200 = .ok (.iconst 0, 1) := by decide +kernel
theorem dX4_weight_201 : decode cX4_weight 201 = .ok (.iaload, 1) := by decide +kernel
theorem dX4_weight_202 : decode cX4_weight 202 = .ok (.ifCond .ne 7, 3) := by decide +kernel
theorem dX4_weight_205 : decode cX4_weight 205 = .ok (.iconst 1, 1) := by decide +kernel
theorem dX4_weight_206 : decode cX4_weight 206 = .ok (.goto 4, 3) := by decide +kernel
theorem dX4_weight_209 : decode cX4_weight 209 = .ok (.iconst 0, 1) := by decide +kernel
theorem dX4_weight_210 : decode cX4_weight 210 = .ok (.istore 8, 2) := by decide +kernel
theorem dX4_weight_212 : decode cX4_weight 212 = .ok (.iconst 0, 1) := by decide +kernel
theorem dX4_weight_213 : decode cX4_weight 213 = .ok (.istore 7, 2) := by decide +kernel
theorem dX4_weight_215 : decode cX4_weight 215 = .ok (.goto 101, 3) := by decide +kernel
theorem dX4_weight_218 : decode cX4_weight 218 = .ok (.iload 10, 2) := by decide +kernel
theorem dX4_weight_220 : decode cX4_weight 220 = .ok (.bipush (-17), 2) := by decide +kernel
theorem dX4_weight_222 : decode cX4_weight 222 = .ok (.if_icmp .ne 32, 3) := by decide +kernel
theorem dX4_weight_225 : decode cX4_weight 225 = .ok (.aload_n 0, 1) := by decide +kernel
theorem dX4_weight_226 : decode cX4_weight 226 = .ok (.getfield 18, 3) := by decide +kernel
theorem dX4_weight_229 : decode cX4_weight 229 = .ok (.iload 7, 2) := by decide +kernel
theorem dX4_weight_231 : decode cX4_weight 231 = .ok (.iconst 1, 1) := by decide +kernel
theorem dX4_weight_232 : decode cX4_weight 232 = .ok (.isub, 1) := by decide +kernel
theorem dX4_weight_233 : decode cX4_weight 233 = .ok (.aload_n 0, 1) := by decide +kernel
theorem dX4_weight_234 : decode cX4_weight 234 = .ok (.getfield 18, 3) := by decide +kernel
theorem dX4_weight_237 : decode cX4_weight 237 = .ok (.iload 7, 2) := by decide +kernel
theorem dX4_weight_239 : decode cX4_weight 239 = .ok (.iconst 1, 1) := by decide +kernel
theorem dX4_weight_240 : decode cX4_weight 240 = .ok (.isub, 1) := by decide +kernel
theorem dX4_weight_241 : decode cX4_weight 241 = .ok (.iaload, 1) := by decide +kernel
theorem dX4_weight_242 : decode cX4_weight 242 = .ok (.ifCond .ne 7, 3) := by decide +kernel
theorem dX4_weight_245 : decode cX4_weight 245 = .ok (.iconst 1, 1) := by decide +kernel
theorem dX4_weight_246 : decode cX4_weight 246 = .ok (.goto 4, 3) := by decide +kernel
theorem dX4_weight_249 : decode cX4_weight 249 = .ok (.iconst 0, 1) := by decide +kernel
theorem dX4_weight_250 : decode cX4_weight 250 = .ok (.iastore, 1) := by decide +kernel
theorem dX4_weight_251 : decode cX4_weight 251 = .ok (.goto 65, 3) := by decide +kernel
theorem dX4_weight_254 : decode cX4_weight 254 = .ok (.iload 10, 2) := by decide +kernel
theorem dX4_weight_256 : decode cX4_weight 256 = .ok (.bipush (-18), 2) := by decide +kernel
theorem dX4_weight_258 : decode cX4_weight 258 = .ok (.if_icmp .ne 25, 3) := by decide +kernel
theorem dX4_weight_261 : decode cX4_weight 261 = .ok (.aload_n 0, 1) := by decide +kernel
theorem dX4_weight_262 : decode cX4_weight 262 = .ok (.getfield 18, 3) := by decide +kernel
theorem dX4_weight_265 : decode cX4_weight 265 = .ok (.iload 7, 2) := by decide +kernel
theorem dX4_weight_267 : decode cX4_weight 267 = .ok (.iconst 1, 1) := by decide +kernel
theorem dX4_weight_268 : decode cX4_weight 268 = .ok (.isub, 1) := by decide +kernel
theorem dX4_weight_269 : decode cX4_weight 269 = .ok (.aload_n 0, 1) := by decide +kernel
theorem dX4_weight_270 : decode cX4_weight 270 = .ok (.getfield 18, 3) := by decide +kernel
theorem dX4_weight_273 : decode cX4_weight 273 = .ok (.iload 7, 2) := by decide +kernel
theorem dX4_weight_275 : decode cX4_weight 275 = .ok (.iconst 1, 1) := by decide +kernel
theorem dX4_weight_276 : decode cX4_weight 276 = .ok (.isub, 1) := by decide +kernel
theorem dX4_weight_277 : decode cX4_weight 277 = .ok (.iaload, 1) := by decide +kernel
theorem dX4_weight_278 : decode cX4_weight 278 = .ok (.ineg, 1) := by decide +kernel
theorem dX4_weight_279 : decode cX4_weight 279 = .ok (.iastore, 1) := by decide +kernel
theorem dX4_weight_280 : decode cX4_weight 280 = .ok (.goto 36, 3) := by decide +kernel
theorem dX4_weight_283 : decode cX4_weight 283 = .ok (.iinc 7 (-1), 3) := by decide +kernel
theorem dX4_weight_286 : decode cX4_weight 286 = .ok (.aload_n 0, 1) := by decide +kernel
theorem dX4_weight_287 : decode cX4_weight 287 = .ok (.getfield 18, 3) := by decide +kernel
theorem dX4_weight_290 : decode cX4_weight 290 = .ok (.iload 7, 2) := by decide +kernel
theorem dX4_weight_292 : decode cX4_weight 292 = .ok (.iconst 1, 1) := by decide +kernel
theorem dX4_weight_293 : decode cX4_weight 293 = .ok (.isub, 1) := by decide +kernel
theorem dX4_weight_294 : decode cX4_weight 294 = .ok (.iload 10, 2) := by decide +kernel
theorem dX4_weight_296 : decode cX4_weight 296 = .ok (.aload_n 0, 1) := by decide +kernel
theorem dX4_weight_297 : decode cX4_weight 297 = .ok (.getfield 18, 3) := by decide +kernel
theorem dX4_weight_300 : decode cX4_weight 300 = .ok (.iload 7, 2) := by decide +kernel
theorem dX4_weight_302 : decode cX4_weight 302 = .ok (.iconst 1, 1) := by decide +kernel
theorem dX4_weight_303 : decode cX4_weight 303 = .ok (.isub, 1) := by decide +kernel
theorem dX4_weight_304 : decode cX4_weight 304 = .ok (.iaload, 1) := by decide +kernel
theorem dX4_weight_305 : decode cX4_weight 305 = .ok (.aload_n 0, 1) := by decide +kernel
theorem dX4_weight_306 : decode cX4_weight 306 = .ok (.getfield 18, 3) := by decide +kernel
theorem dX4_weight_309 : decode cX4_weight 309 = .ok (.iload 7, 2) := by decide +kernel
theorem dX4_weight_311 : decode cX4_weight 311 = .ok (.iaload, 1) := by decide +kernel
theorem dX4_weight_312 : decode cX4_weight 312 = .ok (.invokestatic 25, 3) := by decide +kernel
theorem dX4_weight_315 : decode cX4_weight 315 = .ok (.iastore, 1) := by decide +kernel
theorem dX4_weight_316 : decode cX4_weight 316 = .ok (.iinc 9 1, 3) := by decide +kernel
theorem dX4_weight_319 : decode cX4_weight 319 = .ok (.goto (-230), 3) := by decide +kernel
theorem dX4_weight_322 : decode cX4_weight 322 = .ok (.iconst 0, 1) := by decide +kernel
theorem dX4_weight_323 : decode cX4_weight 323 = .ok (.ireturn, 1) := by decide +kernel
theorem ok_yX4_weight : yOk yX4_weight 6 := ⟨by decide +kernel, by decide +kernel, by decide +kernel⟩
def fX4_weight_89 (n : Nat) : Nat → St → Int32 → Int32 → Int32 → Option (Int32 × St)
  | 0, _, _, _, _ => none
  | k + 1, st, v7, v8, v9 => if gI st 17 1 ≤ v9 then (some ((0 : Int32), st)) else (gd (cdB (gI st 17 0)) (gd (inB v9 121) (bnd (gI st ((gI st 17 0).toNatClampNeg) v9.toNatClampNeg) (fun x19 => if x19 = (-20 : Int32) then (if v8 = 0 then (some ((gI st 20 0), st)) else (bnd (v9 + (1 : Int32)) (fun x78 => fX4_weight_89 n k st v7 (0 : Int32) x78))) else (if v8 = 0 then (if x19 < 0 then (if x19 < (-6 : Int32) then (if x19 = (-19 : Int32) then (if gI st 20 0 = 0 then (bnd (v9 + (1 : Int32)) (fun x58 => fX4_weight_89 n k st (0 : Int32) (1 : Int32) x58)) else (bnd (v9 + (1 : Int32)) (fun x56 => fX4_weight_89 n k st (0 : Int32) (0 : Int32) x56))) else (if x19 = (-17 : Int32) then (gd (inB (v7 - (1 : Int32)) 120) (if gI st 20 (v7 - (1 : Int32)).toNatClampNeg = 0 then (gd (inB (v7 - (1 : Int32)) 120) (bnd (sI st 20 (v7 - (1 : Int32)).toNatClampNeg (1 : Int32)) (fun st51 => bnd (v9 + (1 : Int32)) (fun x53 => fX4_weight_89 n k st51 v7 v8 x53)))) else (gd (inB (v7 - (1 : Int32)) 120) (bnd (sI st 20 (v7 - (1 : Int32)).toNatClampNeg (0 : Int32)) (fun st46 => bnd (v9 + (1 : Int32)) (fun x48 => fX4_weight_89 n k st46 v7 v8 x48)))))) else (if x19 = (-18 : Int32) then (gd (inB (v7 - (1 : Int32)) 120) (gd (inB (v7 - (1 : Int32)) 120) (bnd (sI st 20 (v7 - (1 : Int32)).toNatClampNeg (-(gI st 20 (v7 - (1 : Int32)).toNatClampNeg))) (fun st39 => bnd (v9 + (1 : Int32)) (fun x41 => fX4_weight_89 n k st39 v7 v8 x41))))) else (bnd (v7 + (-1 : Int32)) (fun x28 => gd (inB (x28 - (1 : Int32)) 120) (gd (inB x28 120) (gd (inB (x28 - (1 : Int32)) 120) (bnd (sI st 20 (x28 - (1 : Int32)).toNatClampNeg (fX4_ofTwo x19 (gI st 20 (x28 - (1 : Int32)).toNatClampNeg) (gI st 20 x28.toNatClampNeg))) (fun st33 => bnd (v9 + (1 : Int32)) (fun x35 => fX4_weight_89 n k st33 x28 v8 x35)))))))))) else (bnd (v7 + (1 : Int32)) (fun x60 => gd (inB ((-1 : Int32) - x19) 6) (gd (inB v7 120) (bnd (sI st 20 v7.toNatClampNeg (gI st 19 ((-1 : Int32) - x19).toNatClampNeg)) (fun st64 => bnd (v9 + (1 : Int32)) (fun x66 => fX4_weight_89 n k st64 x60 v8 x66))))))) else (bnd (v7 + (1 : Int32)) (fun x68 => gd (inB v7 120) (bnd (sI st 20 v7.toNatClampNeg x19) (fun st71 => bnd (v9 + (1 : Int32)) (fun x73 => fX4_weight_89 n k st71 x68 v8 x73)))))) else (bnd (v9 + (1 : Int32)) (fun x75 => fX4_weight_89 n k st v7 v8 x75)))))))
set_option maxHeartbeats 4000000 in
theorem tX4_weight_89 {p : Program} {l : Launch} {e : Env} {s : State} {m : MethodId} {args : Array Value} {below : List Frame} {meth : Method} {c : Code} {X : WX} (C : Amb 65 X p s m args meth c cX4_weight 11 RX4) (hr : meth.sig.returnType = some .int) {R : Int32 × St} {n : Nat} : ∀ (k : Nat) (st : St) (v7 : Int32) (v8 : Int32) (v9 : Int32) (H : Heap) (locs : List Loc) (ls : Array Slot), Wd EC 65 X s.heap st H locs → lv_has ls 11 [(0, .ref (xq X 17)), (7, .int v7), (8, .int v8), (9, .int v9)] → fX4_weight_89 n k st v7 v8 v9 = some R → W p l e { frames := 1, cells := 0, slots := 0, locals := 22 } s m args below meth c H locs 0 0 (QI EC 65 X R.1 R.2 below args s) (F0 m 89 ls []) := by
  obtain ⟨hx, hb, hml, hown, hts⟩ := id C.1
  intro k
  induction k with
  | zero => intro st v7 v8 v9 H locs ls  hw hl hf; exact absurd (show none = some R from hf) (fun z => by cases z)
  | succ k ih =>
    intro st v7 v8 v9 H locs ls  hw hl hf
    rw [fX4_weight_89] at hf
    refine lv_iload hx hb dX4_weight_89 (lv_at hl 3 rfl) ?_
    refine lv_aload_n hx hb dX4_weight_91 rfl (lv_at hl 0 rfl) ?_
    refine w_get (T := TX4) C hw (by decide) 1 kf_X4_21 (EC_17 X _ _) rfl inA4 (by decide) rfl dX4_weight_92 ?_
    refine lv_icmp_ge (tgt := 322) hx hb dX4_weight_95 (by decide) (fun c16 => ?_) (fun c16 => ?_)
    · replace hf := ite_t hf c16
      refine lv_iconst (v := 0) hx hb dX4_weight_322 (by decide) ?_
      exact w_iret C hw hr (so2 hf).1 (so2 hf).2 dX4_weight_323
    · replace hf := ite_f hf c16
      refine lv_aload_n hx hb dX4_weight_98 rfl (lv_at hl 0 rfl) ?_
      refine w_get (T := TX4) C hw (by decide) 0 kf_X4_9 (EC_17 X _ _) rfl inA4 (by decide) rfl dX4_weight_99 ?_
      refine lv_iload hx hb dX4_weight_102 (lv_at hl 3 rfl) ?_
      obtain ⟨h17, hf⟩ := gd_some hf
      obtain ⟨h18, hf⟩ := gd_some hf
      refine w_iald C hw (EC_cdN h17) (EC_cd X h17 _ _) h18 rfl dX4_weight_104 ?_
      refine lv_topi (fun x19 e20 => ?_)
      replace hf := bnd_nm hf e20
      refine lv_istore (lv' := [(10, .int x19), (0, .ref (xq X 17)), (7, .int v7), (8, .int v8), (9, .int v9)]) hx hb dX4_weight_105 hl (by decide) rfl (fun ls hl => ?_)
      refine lv_iload hx hb dX4_weight_107 (lv_at hl 0 rfl) ?_
      refine lv_bipush (v := -20) hx hb dX4_weight_109 (by decide) ?_
      refine lv_icmp_ne (tgt := 132) hx hb dX4_weight_111 (by decide) (fun c21 => ?_) (fun c21 => ?_)
      · replace hf := ite_f hf c21
        refine lv_iload hx hb dX4_weight_132 (lv_at hl 3 rfl) ?_
        refine lv_if_eq (tgt := 140) hx hb dX4_weight_134 (by decide) (fun c22 => ?_) (fun c22 => ?_)
        · replace hf := ite_t hf c22
          refine lv_iload hx hb dX4_weight_140 (lv_at hl 0 rfl) ?_
          refine lv_if_lt (tgt := 160) hx hb dX4_weight_142 (by decide) (fun c23 => ?_) (fun c23 => ?_)
          · replace hf := ite_t hf c23
            refine lv_iload hx hb dX4_weight_160 (lv_at hl 0 rfl) ?_
            refine lv_bipush (v := -6) hx hb dX4_weight_162 (by decide) ?_
            refine lv_icmp_lt (tgt := 189) hx hb dX4_weight_164 (by decide) (fun c24 => ?_) (fun c24 => ?_)
            · replace hf := ite_t hf c24
              refine lv_iload hx hb dX4_weight_189 (lv_at hl 0 rfl) ?_
              refine lv_bipush (v := -19) hx hb dX4_weight_191 (by decide) ?_
              refine lv_icmp_ne (tgt := 218) hx hb dX4_weight_193 (by decide) (fun c25 => ?_) (fun c25 => ?_)
              · replace hf := ite_f hf c25
                refine lv_iload hx hb dX4_weight_218 (lv_at hl 0 rfl) ?_
                refine lv_bipush (v := -17) hx hb dX4_weight_220 (by decide) ?_
                refine lv_icmp_ne (tgt := 254) hx hb dX4_weight_222 (by decide) (fun c26 => ?_) (fun c26 => ?_)
                · replace hf := ite_f hf c26
                  refine lv_iload hx hb dX4_weight_254 (lv_at hl 0 rfl) ?_
                  refine lv_bipush (v := -18) hx hb dX4_weight_256 (by decide) ?_
                  refine lv_icmp_ne (tgt := 283) hx hb dX4_weight_258 (by decide) (fun c27 => ?_) (fun c27 => ?_)
                  · replace hf := ite_f hf c27
                    obtain ⟨x28, e29⟩ : ∃ z : Int32, z = v7 + (-1 : Int32) := ⟨_, rfl⟩
                    replace hf := bnd_nm hf e29
                    refine lv_iinc (v := x28) (lv' := [(7, .int x28), (10, .int x19), (0, .ref (xq X 17)), (8, .int v8), (9, .int v9)]) hx hb dX4_weight_283 hl (k := 2) rfl (by rw [e29]; rfl) (by decide) rfl (fun ls hl => ?_)
                    refine lv_aload_n hx hb dX4_weight_286 rfl (lv_at hl 2 rfl) ?_
                    refine w_get (T := TX4) C hw (by decide) 3 kf_X4_18 (EC_17 X _ _) rfl inA4 (by decide) rfl dX4_weight_287 ?_
                    refine lv_iload hx hb dX4_weight_290 (lv_at hl 0 rfl) ?_
                    refine lv_iconst (v := 1) hx hb dX4_weight_292 (by decide) ?_
                    refine lv_isub hx hb dX4_weight_293 ?_
                    refine lv_iload hx hb dX4_weight_294 (lv_at hl 1 rfl) ?_
                    refine lv_aload_n hx hb dX4_weight_296 rfl (lv_at hl 2 rfl) ?_
                    refine w_get (T := TX4) C hw (by decide) 3 kf_X4_18 (EC_17 X _ _) rfl inA4 (by decide) rfl dX4_weight_297 ?_
                    refine lv_iload hx hb dX4_weight_300 (lv_at hl 0 rfl) ?_
                    refine lv_iconst (v := 1) hx hb dX4_weight_302 (by decide) ?_
                    refine lv_isub hx hb dX4_weight_303 ?_
                    obtain ⟨h30, hf⟩ := gd_some hf
                    refine w_iald C hw (by decide) (EC_20 X _ _) h30 rfl dX4_weight_304 ?_
                    refine lv_aload_n hx hb dX4_weight_305 rfl (lv_at hl 2 rfl) ?_
                    refine w_get (T := TX4) C hw (by decide) 3 kf_X4_18 (EC_17 X _ _) rfl inA4 (by decide) rfl dX4_weight_306 ?_
                    refine lv_iload hx hb dX4_weight_309 (lv_at hl 0 rfl) ?_
                    obtain ⟨h31, hf⟩ := gd_some hf
                    refine w_iald C hw (by decide) (EC_20 X _ _) h31 rfl dX4_weight_311 ?_
                    refine w_goI hw (w_runS (rest := [.int (x28 - (1 : Int32)), .ref (xq X 20)]) C hw (zX4_ofTwo _ _ st x19 (gI st 20 (x28 - (1 : Int32)).toNatClampNeg) (gI st 20 x28.toNatClampNeg)) km_X4_25 kt_yX4_ofTwo kz_X4 kc_X4_ofTwo ok_yX4_ofTwo ⟨Nat.le_of_ble_eq_true rfl, Nat.le_of_ble_eq_true rfl⟩ rfl rfl rfl rfl hl.1 (Nat.le_of_ble_eq_true rfl) dX4_weight_312 ⟨Nat.zero_le _, Nat.zero_le _⟩) (fun H locs hw => ?_)
                    obtain ⟨h32, hf⟩ := gd_some hf
                    obtain ⟨st33, es34⟩ : ∃ z : St, z = sI st 20 (x28 - (1 : Int32)).toNatClampNeg (fX4_ofTwo x19 (gI st 20 (x28 - (1 : Int32)).toNatClampNeg) (gI st 20 x28.toNatClampNeg)) := ⟨_, rfl⟩
                    replace hf := bnd_nm hf es34
                    refine w_iast C hw (by decide) (fun f9 => EC_20 X f9 _) h32 rfl dX4_weight_315 (fun H locs hw => ?_)
                    rw [← es34] at hw
                    obtain ⟨x35, e36⟩ : ∃ z : Int32, z = v9 + (1 : Int32) := ⟨_, rfl⟩
                    replace hf := bnd_nm hf e36
                    refine lv_iinc (v := x35) (lv' := [(9, .int x35), (7, .int x28), (10, .int x19), (0, .ref (xq X 17)), (8, .int v8)]) hx hb dX4_weight_316 hl (k := 4) rfl (by rw [e36]; rfl) (by decide) rfl (fun ls hl => ?_)
                    refine lv_goto (tgt := 89) hx hb dX4_weight_319 (by decide) ?_
                    exact ih st33 x28 v8 x35 _ _ _ hw (lv_sub hl [3, 1, 4, 0] rfl) hf
                  · replace hf := ite_t hf c27
                    refine lv_aload_n hx hb dX4_weight_261 rfl (lv_at hl 1 rfl) ?_
                    refine w_get (T := TX4) C hw (by decide) 3 kf_X4_18 (EC_17 X _ _) rfl inA4 (by decide) rfl dX4_weight_262 ?_
                    refine lv_iload hx hb dX4_weight_265 (lv_at hl 2 rfl) ?_
                    refine lv_iconst (v := 1) hx hb dX4_weight_267 (by decide) ?_
                    refine lv_isub hx hb dX4_weight_268 ?_
                    refine lv_aload_n hx hb dX4_weight_269 rfl (lv_at hl 1 rfl) ?_
                    refine w_get (T := TX4) C hw (by decide) 3 kf_X4_18 (EC_17 X _ _) rfl inA4 (by decide) rfl dX4_weight_270 ?_
                    refine lv_iload hx hb dX4_weight_273 (lv_at hl 2 rfl) ?_
                    refine lv_iconst (v := 1) hx hb dX4_weight_275 (by decide) ?_
                    refine lv_isub hx hb dX4_weight_276 ?_
                    obtain ⟨h37, hf⟩ := gd_some hf
                    refine w_iald C hw (by decide) (EC_20 X _ _) h37 rfl dX4_weight_277 ?_
                    refine lv_ineg hx hb dX4_weight_278 ?_
                    obtain ⟨h38, hf⟩ := gd_some hf
                    obtain ⟨st39, es40⟩ : ∃ z : St, z = sI st 20 (v7 - (1 : Int32)).toNatClampNeg (-(gI st 20 (v7 - (1 : Int32)).toNatClampNeg)) := ⟨_, rfl⟩
                    replace hf := bnd_nm hf es40
                    refine w_iast C hw (by decide) (fun f9 => EC_20 X f9 _) h38 rfl dX4_weight_279 (fun H locs hw => ?_)
                    rw [← es40] at hw
                    refine lv_goto (tgt := 316) hx hb dX4_weight_280 (by decide) ?_
                    obtain ⟨x41, e42⟩ : ∃ z : Int32, z = v9 + (1 : Int32) := ⟨_, rfl⟩
                    replace hf := bnd_nm hf e42
                    refine lv_iinc (v := x41) (lv' := [(9, .int x41), (10, .int x19), (0, .ref (xq X 17)), (7, .int v7), (8, .int v8)]) hx hb dX4_weight_316 hl (k := 4) rfl (by rw [e42]; rfl) (by decide) rfl (fun ls hl => ?_)
                    refine lv_goto (tgt := 89) hx hb dX4_weight_319 (by decide) ?_
                    exact ih st39 v7 v8 x41 _ _ _ hw (lv_sub hl [2, 3, 4, 0] rfl) hf
                · replace hf := ite_t hf c26
                  refine lv_aload_n hx hb dX4_weight_225 rfl (lv_at hl 1 rfl) ?_
                  refine w_get (T := TX4) C hw (by decide) 3 kf_X4_18 (EC_17 X _ _) rfl inA4 (by decide) rfl dX4_weight_226 ?_
                  refine lv_iload hx hb dX4_weight_229 (lv_at hl 2 rfl) ?_
                  refine lv_iconst (v := 1) hx hb dX4_weight_231 (by decide) ?_
                  refine lv_isub hx hb dX4_weight_232 ?_
                  refine lv_aload_n hx hb dX4_weight_233 rfl (lv_at hl 1 rfl) ?_
                  refine w_get (T := TX4) C hw (by decide) 3 kf_X4_18 (EC_17 X _ _) rfl inA4 (by decide) rfl dX4_weight_234 ?_
                  refine lv_iload hx hb dX4_weight_237 (lv_at hl 2 rfl) ?_
                  refine lv_iconst (v := 1) hx hb dX4_weight_239 (by decide) ?_
                  refine lv_isub hx hb dX4_weight_240 ?_
                  obtain ⟨h43, hf⟩ := gd_some hf
                  refine w_iald C hw (by decide) (EC_20 X _ _) h43 rfl dX4_weight_241 ?_
                  refine lv_if_ne (tgt := 249) hx hb dX4_weight_242 (by decide) (fun c44 => ?_) (fun c44 => ?_)
                  · replace hf := ite_f hf c44
                    refine lv_iconst (v := 0) hx hb dX4_weight_249 (by decide) ?_
                    obtain ⟨h45, hf⟩ := gd_some hf
                    obtain ⟨st46, es47⟩ : ∃ z : St, z = sI st 20 (v7 - (1 : Int32)).toNatClampNeg (0 : Int32) := ⟨_, rfl⟩
                    replace hf := bnd_nm hf es47
                    refine w_iast C hw (by decide) (fun f9 => EC_20 X f9 _) h45 rfl dX4_weight_250 (fun H locs hw => ?_)
                    rw [← es47] at hw
                    refine lv_goto (tgt := 316) hx hb dX4_weight_251 (by decide) ?_
                    obtain ⟨x48, e49⟩ : ∃ z : Int32, z = v9 + (1 : Int32) := ⟨_, rfl⟩
                    replace hf := bnd_nm hf e49
                    refine lv_iinc (v := x48) (lv' := [(9, .int x48), (10, .int x19), (0, .ref (xq X 17)), (7, .int v7), (8, .int v8)]) hx hb dX4_weight_316 hl (k := 4) rfl (by rw [e49]; rfl) (by decide) rfl (fun ls hl => ?_)
                    refine lv_goto (tgt := 89) hx hb dX4_weight_319 (by decide) ?_
                    exact ih st46 v7 v8 x48 _ _ _ hw (lv_sub hl [2, 3, 4, 0] rfl) hf
                  · replace hf := ite_t hf c44
                    refine lv_iconst (v := 1) hx hb dX4_weight_245 (by decide) ?_
                    refine lv_goto (tgt := 250) hx hb dX4_weight_246 (by decide) ?_
                    obtain ⟨h50, hf⟩ := gd_some hf
                    obtain ⟨st51, es52⟩ : ∃ z : St, z = sI st 20 (v7 - (1 : Int32)).toNatClampNeg (1 : Int32) := ⟨_, rfl⟩
                    replace hf := bnd_nm hf es52
                    refine w_iast C hw (by decide) (fun f9 => EC_20 X f9 _) h50 rfl dX4_weight_250 (fun H locs hw => ?_)
                    rw [← es52] at hw
                    refine lv_goto (tgt := 316) hx hb dX4_weight_251 (by decide) ?_
                    obtain ⟨x53, e54⟩ : ∃ z : Int32, z = v9 + (1 : Int32) := ⟨_, rfl⟩
                    replace hf := bnd_nm hf e54
                    refine lv_iinc (v := x53) (lv' := [(9, .int x53), (10, .int x19), (0, .ref (xq X 17)), (7, .int v7), (8, .int v8)]) hx hb dX4_weight_316 hl (k := 4) rfl (by rw [e54]; rfl) (by decide) rfl (fun ls hl => ?_)
                    refine lv_goto (tgt := 89) hx hb dX4_weight_319 (by decide) ?_
                    exact ih st51 v7 v8 x53 _ _ _ hw (lv_sub hl [2, 3, 4, 0] rfl) hf
              · replace hf := ite_t hf c25
                refine lv_aload_n hx hb dX4_weight_196 rfl (lv_at hl 1 rfl) ?_
                refine w_get (T := TX4) C hw (by decide) 3 kf_X4_18 (EC_17 X _ _) rfl inA4 (by decide) rfl dX4_weight_197 ?_
                refine lv_iconst (v := 0) hx hb dX4_weight_200 (by decide) ?_
                refine w_iald C hw (by decide) (EC_20 X _ _) (by decide) (show (0 : Int32).toNatClampNeg = 0 by decide) dX4_weight_201 ?_
                refine lv_if_ne (tgt := 209) hx hb dX4_weight_202 (by decide) (fun c55 => ?_) (fun c55 => ?_)
                · replace hf := ite_f hf c55
                  refine lv_iconst (v := 0) hx hb dX4_weight_209 (by decide) ?_
                  refine lv_istore (lv' := [(8, .int (0 : Int32)), (10, .int x19), (0, .ref (xq X 17)), (7, .int v7), (9, .int v9)]) hx hb dX4_weight_210 hl (by decide) rfl (fun ls hl => ?_)
                  refine lv_iconst (v := 0) hx hb dX4_weight_212 (by decide) ?_
                  refine lv_istore (lv' := [(7, .int (0 : Int32)), (8, .int (0 : Int32)), (10, .int x19), (0, .ref (xq X 17)), (9, .int v9)]) hx hb dX4_weight_213 hl (by decide) rfl (fun ls hl => ?_)
                  refine lv_goto (tgt := 316) hx hb dX4_weight_215 (by decide) ?_
                  obtain ⟨x56, e57⟩ : ∃ z : Int32, z = v9 + (1 : Int32) := ⟨_, rfl⟩
                  replace hf := bnd_nm hf e57
                  refine lv_iinc (v := x56) (lv' := [(9, .int x56), (7, .int (0 : Int32)), (8, .int (0 : Int32)), (10, .int x19), (0, .ref (xq X 17))]) hx hb dX4_weight_316 hl (k := 4) rfl (by rw [e57]; rfl) (by decide) rfl (fun ls hl => ?_)
                  refine lv_goto (tgt := 89) hx hb dX4_weight_319 (by decide) ?_
                  exact ih st (0 : Int32) (0 : Int32) x56 _ _ _ hw (lv_sub hl [4, 1, 2, 0] rfl) hf
                · replace hf := ite_t hf c55
                  refine lv_iconst (v := 1) hx hb dX4_weight_205 (by decide) ?_
                  refine lv_goto (tgt := 210) hx hb dX4_weight_206 (by decide) ?_
                  refine lv_istore (lv' := [(8, .int (1 : Int32)), (10, .int x19), (0, .ref (xq X 17)), (7, .int v7), (9, .int v9)]) hx hb dX4_weight_210 hl (by decide) rfl (fun ls hl => ?_)
                  refine lv_iconst (v := 0) hx hb dX4_weight_212 (by decide) ?_
                  refine lv_istore (lv' := [(7, .int (0 : Int32)), (8, .int (1 : Int32)), (10, .int x19), (0, .ref (xq X 17)), (9, .int v9)]) hx hb dX4_weight_213 hl (by decide) rfl (fun ls hl => ?_)
                  refine lv_goto (tgt := 316) hx hb dX4_weight_215 (by decide) ?_
                  obtain ⟨x58, e59⟩ : ∃ z : Int32, z = v9 + (1 : Int32) := ⟨_, rfl⟩
                  replace hf := bnd_nm hf e59
                  refine lv_iinc (v := x58) (lv' := [(9, .int x58), (7, .int (0 : Int32)), (8, .int (1 : Int32)), (10, .int x19), (0, .ref (xq X 17))]) hx hb dX4_weight_316 hl (k := 4) rfl (by rw [e59]; rfl) (by decide) rfl (fun ls hl => ?_)
                  refine lv_goto (tgt := 89) hx hb dX4_weight_319 (by decide) ?_
                  exact ih st (0 : Int32) (1 : Int32) x58 _ _ _ hw (lv_sub hl [4, 1, 2, 0] rfl) hf
            · replace hf := ite_f hf c24
              refine lv_aload_n hx hb dX4_weight_167 rfl (lv_at hl 1 rfl) ?_
              refine w_get (T := TX4) C hw (by decide) 3 kf_X4_18 (EC_17 X _ _) rfl inA4 (by decide) rfl dX4_weight_168 ?_
              refine lv_iload hx hb dX4_weight_171 (lv_at hl 2 rfl) ?_
              obtain ⟨x60, e61⟩ : ∃ z : Int32, z = v7 + (1 : Int32) := ⟨_, rfl⟩
              replace hf := bnd_nm hf e61
              refine lv_iinc (v := x60) (lv' := [(7, .int x60), (10, .int x19), (0, .ref (xq X 17)), (8, .int v8), (9, .int v9)]) hx hb dX4_weight_173 hl (k := 2) rfl (by rw [e61]; rfl) (by decide) rfl (fun ls hl => ?_)
              refine lv_aload_n hx hb dX4_weight_176 rfl (lv_at hl 2 rfl) ?_
              refine w_get (T := TX4) C hw (by decide) 2 kf_X4_15 (EC_17 X _ _) rfl inA4 (by decide) rfl dX4_weight_177 ?_
              refine lv_iconst (v := -1) hx hb dX4_weight_180 (by decide) ?_
              refine lv_iload hx hb dX4_weight_181 (lv_at hl 1 rfl) ?_
              refine lv_isub hx hb dX4_weight_183 ?_
              obtain ⟨h62, hf⟩ := gd_some hf
              refine w_iald C hw (by decide) (EC_19 X _ _) h62 rfl dX4_weight_184 ?_
              obtain ⟨h63, hf⟩ := gd_some hf
              obtain ⟨st64, es65⟩ : ∃ z : St, z = sI st 20 v7.toNatClampNeg (gI st 19 ((-1 : Int32) - x19).toNatClampNeg) := ⟨_, rfl⟩
              replace hf := bnd_nm hf es65
              refine w_iast C hw (by decide) (fun f9 => EC_20 X f9 _) h63 rfl dX4_weight_185 (fun H locs hw => ?_)
              rw [← es65] at hw
              refine lv_goto (tgt := 316) hx hb dX4_weight_186 (by decide) ?_
              obtain ⟨x66, e67⟩ : ∃ z : Int32, z = v9 + (1 : Int32) := ⟨_, rfl⟩
              replace hf := bnd_nm hf e67
              refine lv_iinc (v := x66) (lv' := [(9, .int x66), (7, .int x60), (10, .int x19), (0, .ref (xq X 17)), (8, .int v8)]) hx hb dX4_weight_316 hl (k := 4) rfl (by rw [e67]; rfl) (by decide) rfl (fun ls hl => ?_)
              refine lv_goto (tgt := 89) hx hb dX4_weight_319 (by decide) ?_
              exact ih st64 x60 v8 x66 _ _ _ hw (lv_sub hl [3, 1, 4, 0] rfl) hf
          · replace hf := ite_f hf c23
            refine lv_aload_n hx hb dX4_weight_145 rfl (lv_at hl 1 rfl) ?_
            refine w_get (T := TX4) C hw (by decide) 3 kf_X4_18 (EC_17 X _ _) rfl inA4 (by decide) rfl dX4_weight_146 ?_
            refine lv_iload hx hb dX4_weight_149 (lv_at hl 2 rfl) ?_
            obtain ⟨x68, e69⟩ : ∃ z : Int32, z = v7 + (1 : Int32) := ⟨_, rfl⟩
            replace hf := bnd_nm hf e69
            refine lv_iinc (v := x68) (lv' := [(7, .int x68), (10, .int x19), (0, .ref (xq X 17)), (8, .int v8), (9, .int v9)]) hx hb dX4_weight_151 hl (k := 2) rfl (by rw [e69]; rfl) (by decide) rfl (fun ls hl => ?_)
            refine lv_iload hx hb dX4_weight_154 (lv_at hl 1 rfl) ?_
            obtain ⟨h70, hf⟩ := gd_some hf
            obtain ⟨st71, es72⟩ : ∃ z : St, z = sI st 20 v7.toNatClampNeg x19 := ⟨_, rfl⟩
            replace hf := bnd_nm hf es72
            refine w_iast C hw (by decide) (fun f9 => EC_20 X f9 _) h70 rfl dX4_weight_156 (fun H locs hw => ?_)
            rw [← es72] at hw
            refine lv_goto (tgt := 316) hx hb dX4_weight_157 (by decide) ?_
            obtain ⟨x73, e74⟩ : ∃ z : Int32, z = v9 + (1 : Int32) := ⟨_, rfl⟩
            replace hf := bnd_nm hf e74
            refine lv_iinc (v := x73) (lv' := [(9, .int x73), (7, .int x68), (10, .int x19), (0, .ref (xq X 17)), (8, .int v8)]) hx hb dX4_weight_316 hl (k := 4) rfl (by rw [e74]; rfl) (by decide) rfl (fun ls hl => ?_)
            refine lv_goto (tgt := 89) hx hb dX4_weight_319 (by decide) ?_
            exact ih st71 x68 v8 x73 _ _ _ hw (lv_sub hl [3, 1, 4, 0] rfl) hf
        · replace hf := ite_f hf c22
          refine lv_goto (tgt := 316) hx hb dX4_weight_137 (by decide) ?_
          obtain ⟨x75, e76⟩ : ∃ z : Int32, z = v9 + (1 : Int32) := ⟨_, rfl⟩
          replace hf := bnd_nm hf e76
          refine lv_iinc (v := x75) (lv' := [(9, .int x75), (10, .int x19), (0, .ref (xq X 17)), (7, .int v7), (8, .int v8)]) hx hb dX4_weight_316 hl (k := 4) rfl (by rw [e76]; rfl) (by decide) rfl (fun ls hl => ?_)
          refine lv_goto (tgt := 89) hx hb dX4_weight_319 (by decide) ?_
          exact ih st v7 v8 x75 _ _ _ hw (lv_sub hl [2, 3, 4, 0] rfl) hf
      · replace hf := ite_t hf c21
        refine lv_iload hx hb dX4_weight_114 (lv_at hl 3 rfl) ?_
        refine lv_if_ne (tgt := 126) hx hb dX4_weight_116 (by decide) (fun c77 => ?_) (fun c77 => ?_)
        · replace hf := ite_f hf c77
          refine lv_iconst (v := 0) hx hb dX4_weight_126 (by decide) ?_
          refine lv_istore (lv' := [(8, .int (0 : Int32)), (10, .int x19), (0, .ref (xq X 17)), (7, .int v7), (9, .int v9)]) hx hb dX4_weight_127 hl (by decide) rfl (fun ls hl => ?_)
          refine lv_goto (tgt := 316) hx hb dX4_weight_129 (by decide) ?_
          obtain ⟨x78, e79⟩ : ∃ z : Int32, z = v9 + (1 : Int32) := ⟨_, rfl⟩
          replace hf := bnd_nm hf e79
          refine lv_iinc (v := x78) (lv' := [(9, .int x78), (8, .int (0 : Int32)), (10, .int x19), (0, .ref (xq X 17)), (7, .int v7)]) hx hb dX4_weight_316 hl (k := 4) rfl (by rw [e79]; rfl) (by decide) rfl (fun ls hl => ?_)
          refine lv_goto (tgt := 89) hx hb dX4_weight_319 (by decide) ?_
          exact ih st v7 (0 : Int32) x78 _ _ _ hw (lv_sub hl [3, 4, 1, 0] rfl) hf
        · replace hf := ite_t hf c77
          refine lv_aload_n hx hb dX4_weight_119 rfl (lv_at hl 1 rfl) ?_
          refine w_get (T := TX4) C hw (by decide) 3 kf_X4_18 (EC_17 X _ _) rfl inA4 (by decide) rfl dX4_weight_120 ?_
          refine lv_iconst (v := 0) hx hb dX4_weight_123 (by decide) ?_
          refine w_iald C hw (by decide) (EC_20 X _ _) (by decide) (show (0 : Int32).toNatClampNeg = 0 by decide) dX4_weight_124 ?_
          exact w_iret C hw hr (so2 hf).1 (so2 hf).2 dX4_weight_125
def fX4_weight (n : Nat) (st : St) (a1 : Int32) (a2 : Int32) (a3 : Int32) (a4 : Int32) (a5 : Int32) (a6 : Int32) : Option (Int32 × St) := if gI st 17 1 = 0 then (if a5 = 0 then (if a2 = a3 then (some (((((10 : Int32) + a4) - a1) + (3 : Int32)), st)) else (some (((((10 : Int32) + a4) - a1) + (0 : Int32)), st))) else (some ((0 : Int32), st))) else (bnd (sI st 19 0 a1) (fun st2 => bnd (sI st2 19 1 a2) (fun st4 => bnd (sI st4 19 2 a3) (fun st6 => bnd (sI st6 19 3 a4) (fun st8 => bnd (sI st8 19 4 a5) (fun st10 => bnd (sI st10 19 5 a6) (fun st12 => fX4_weight_89 n n st12 (0 : Int32) (0 : Int32) (0 : Int32))))))))
set_option maxHeartbeats 4000000 in
theorem zX4_weight (l : Launch) (X : WX) (n : Nat) (st : St) (a1 : Int32) (a2 : Int32) (a3 : Int32) (a4 : Int32) (a5 : Int32) (a6 : Int32) (R : Int32 × St) (hf : fX4_weight n st a1 a2 a3 a4 a5 a6 = some R) : CtI l yX4_weight cX4_weight 11 .int ({ frames := 1, cells := 0, slots := 0, locals := 22 }) EC 65 X [.ref (xq X 17), .int a1, .int a2, .int a3, .int a4, .int a5, .int a6] st R.1 R.2 := by
  refine ct_in (own := RX4) (by decide +kernel) rfl (Nat.le_of_ble_eq_true rfl) (fun p e s m below meth c C hr hw ls hl => ?_)
  obtain ⟨hx, hb, hml, hown, hts⟩ := id C.1
  have hl : lv_has ls 11 [(0, .ref (xq X 17)), (1, .int a1), (2, .int a2), (3, .int a3), (4, .int a4), (5, .int a5), (6, .int a6)] := hl
  unfold fX4_weight at hf
  refine lv_aload_n hx hb dX4_weight_0 rfl (lv_at hl 0 rfl) ?_
  refine w_get (T := TX4) C hw (by decide) 1 kf_X4_21 (EC_17 X _ _) rfl inA4 (by decide) rfl dX4_weight_1 ?_
  refine lv_if_ne (tgt := 35) hx hb dX4_weight_4 (by decide) (fun c1 => ?_) (fun c1 => ?_)
  · replace hf := ite_f hf c1
    refine lv_aload_n hx hb dX4_weight_35 rfl (lv_at hl 0 rfl) ?_
    refine w_get (T := TX4) C hw (by decide) 2 kf_X4_15 (EC_17 X _ _) rfl inA4 (by decide) rfl dX4_weight_36 ?_
    refine lv_iconst (v := 0) hx hb dX4_weight_39 (by decide) ?_
    refine lv_iload_n hx hb dX4_weight_40 rfl (lv_at hl 1 rfl) ?_
    obtain ⟨st2, es3⟩ : ∃ z : St, z = sI st 19 0 a1 := ⟨_, rfl⟩
    replace hf := bnd_nm hf es3
    refine w_iast C hw (by decide) (fun f9 => EC_19 X f9 _) (by decide) (show (0 : Int32).toNatClampNeg = 0 by decide) dX4_weight_41 (fun H locs hw => ?_)
    rw [← es3] at hw
    refine lv_aload_n hx hb dX4_weight_42 rfl (lv_at hl 0 rfl) ?_
    refine w_get (T := TX4) C hw (by decide) 2 kf_X4_15 (EC_17 X _ _) rfl inA4 (by decide) rfl dX4_weight_43 ?_
    refine lv_iconst (v := 1) hx hb dX4_weight_46 (by decide) ?_
    refine lv_iload_n hx hb dX4_weight_47 rfl (lv_at hl 2 rfl) ?_
    obtain ⟨st4, es5⟩ : ∃ z : St, z = sI st2 19 1 a2 := ⟨_, rfl⟩
    replace hf := bnd_nm hf es5
    refine w_iast C hw (by decide) (fun f9 => EC_19 X f9 _) (by decide) (show (1 : Int32).toNatClampNeg = 1 by decide) dX4_weight_48 (fun H locs hw => ?_)
    rw [← es5] at hw
    refine lv_aload_n hx hb dX4_weight_49 rfl (lv_at hl 0 rfl) ?_
    refine w_get (T := TX4) C hw (by decide) 2 kf_X4_15 (EC_17 X _ _) rfl inA4 (by decide) rfl dX4_weight_50 ?_
    refine lv_iconst (v := 2) hx hb dX4_weight_53 (by decide) ?_
    refine lv_iload_n hx hb dX4_weight_54 rfl (lv_at hl 3 rfl) ?_
    obtain ⟨st6, es7⟩ : ∃ z : St, z = sI st4 19 2 a3 := ⟨_, rfl⟩
    replace hf := bnd_nm hf es7
    refine w_iast C hw (by decide) (fun f9 => EC_19 X f9 _) (by decide) (show (2 : Int32).toNatClampNeg = 2 by decide) dX4_weight_55 (fun H locs hw => ?_)
    rw [← es7] at hw
    refine lv_aload_n hx hb dX4_weight_56 rfl (lv_at hl 0 rfl) ?_
    refine w_get (T := TX4) C hw (by decide) 2 kf_X4_15 (EC_17 X _ _) rfl inA4 (by decide) rfl dX4_weight_57 ?_
    refine lv_iconst (v := 3) hx hb dX4_weight_60 (by decide) ?_
    refine lv_iload hx hb dX4_weight_61 (lv_at hl 4 rfl) ?_
    obtain ⟨st8, es9⟩ : ∃ z : St, z = sI st6 19 3 a4 := ⟨_, rfl⟩
    replace hf := bnd_nm hf es9
    refine w_iast C hw (by decide) (fun f9 => EC_19 X f9 _) (by decide) (show (3 : Int32).toNatClampNeg = 3 by decide) dX4_weight_63 (fun H locs hw => ?_)
    rw [← es9] at hw
    refine lv_aload_n hx hb dX4_weight_64 rfl (lv_at hl 0 rfl) ?_
    refine w_get (T := TX4) C hw (by decide) 2 kf_X4_15 (EC_17 X _ _) rfl inA4 (by decide) rfl dX4_weight_65 ?_
    refine lv_iconst (v := 4) hx hb dX4_weight_68 (by decide) ?_
    refine lv_iload hx hb dX4_weight_69 (lv_at hl 5 rfl) ?_
    obtain ⟨st10, es11⟩ : ∃ z : St, z = sI st8 19 4 a5 := ⟨_, rfl⟩
    replace hf := bnd_nm hf es11
    refine w_iast C hw (by decide) (fun f9 => EC_19 X f9 _) (by decide) (show (4 : Int32).toNatClampNeg = 4 by decide) dX4_weight_71 (fun H locs hw => ?_)
    rw [← es11] at hw
    refine lv_aload_n hx hb dX4_weight_72 rfl (lv_at hl 0 rfl) ?_
    refine w_get (T := TX4) C hw (by decide) 2 kf_X4_15 (EC_17 X _ _) rfl inA4 (by decide) rfl dX4_weight_73 ?_
    refine lv_iconst (v := 5) hx hb dX4_weight_76 (by decide) ?_
    refine lv_iload hx hb dX4_weight_77 (lv_at hl 6 rfl) ?_
    obtain ⟨st12, es13⟩ : ∃ z : St, z = sI st10 19 5 a6 := ⟨_, rfl⟩
    replace hf := bnd_nm hf es13
    refine w_iast C hw (by decide) (fun f9 => EC_19 X f9 _) (by decide) (show (5 : Int32).toNatClampNeg = 5 by decide) dX4_weight_79 (fun H locs hw => ?_)
    rw [← es13] at hw
    refine lv_iconst (v := 0) hx hb dX4_weight_80 (by decide) ?_
    refine lv_istore (lv' := [(7, .int (0 : Int32)), (0, .ref (xq X 17)), (1, .int a1), (2, .int a2), (3, .int a3), (4, .int a4), (5, .int a5), (6, .int a6)]) hx hb dX4_weight_81 hl (by decide) rfl (fun ls hl => ?_)
    refine lv_iconst (v := 0) hx hb dX4_weight_83 (by decide) ?_
    refine lv_istore (lv' := [(8, .int (0 : Int32)), (7, .int (0 : Int32)), (0, .ref (xq X 17)), (1, .int a1), (2, .int a2), (3, .int a3), (4, .int a4), (5, .int a5), (6, .int a6)]) hx hb dX4_weight_84 hl (by decide) rfl (fun ls hl => ?_)
    refine lv_iconst (v := 0) hx hb dX4_weight_86 (by decide) ?_
    refine lv_istore (lv' := [(9, .int (0 : Int32)), (8, .int (0 : Int32)), (7, .int (0 : Int32)), (0, .ref (xq X 17)), (1, .int a1), (2, .int a2), (3, .int a3), (4, .int a4), (5, .int a5), (6, .int a6)]) hx hb dX4_weight_87 hl (by decide) rfl (fun ls hl => ?_)
    exact tX4_weight_89 C hr n st12 (0 : Int32) (0 : Int32) (0 : Int32) _ _ _ hw (lv_sub hl [3, 2, 1, 0] rfl) hf
  · replace hf := ite_t hf c1
    refine lv_iload hx hb dX4_weight_7 (lv_at hl 5 rfl) ?_
    refine lv_if_eq (tgt := 16) hx hb dX4_weight_9 (by decide) (fun c14 => ?_) (fun c14 => ?_)
    · replace hf := ite_t hf c14
      refine lv_bipush (v := 10) hx hb dX4_weight_16 (by decide) ?_
      refine lv_iload hx hb dX4_weight_18 (lv_at hl 4 rfl) ?_
      refine lv_iadd hx hb dX4_weight_20 ?_
      refine lv_iload_n hx hb dX4_weight_21 rfl (lv_at hl 1 rfl) ?_
      refine lv_isub hx hb dX4_weight_22 ?_
      refine lv_iload_n hx hb dX4_weight_23 rfl (lv_at hl 2 rfl) ?_
      refine lv_iload_n hx hb dX4_weight_24 rfl (lv_at hl 3 rfl) ?_
      refine lv_icmp_ne (tgt := 32) hx hb dX4_weight_25 (by decide) (fun c15 => ?_) (fun c15 => ?_)
      · replace hf := ite_f hf c15
        refine lv_iconst (v := 0) hx hb dX4_weight_32 (by decide) ?_
        refine lv_iadd hx hb dX4_weight_33 ?_
        exact w_iret C hw hr (so2 hf).1 (so2 hf).2 dX4_weight_34
      · replace hf := ite_t hf c15
        refine lv_iconst (v := 3) hx hb dX4_weight_28 (by decide) ?_
        refine lv_goto (tgt := 33) hx hb dX4_weight_29 (by decide) ?_
        refine lv_iadd hx hb dX4_weight_33 ?_
        exact w_iret C hw hr (so2 hf).1 (so2 hf).2 dX4_weight_34
    · replace hf := ite_f hf c14
      refine lv_iconst (v := 0) hx hb dX4_weight_12 (by decide) ?_
      refine lv_goto (tgt := 34) hx hb dX4_weight_13 (by decide) ?_
      exact w_iret C hw hr (so2 hf).1 (so2 hf).2 dX4_weight_34
