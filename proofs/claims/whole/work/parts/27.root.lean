theorem ok_yX7_init : yOk yX7_init 0 := ⟨by decide +kernel, by decide +kernel, by decide +kernel⟩
theorem ok_yX11_init : yOk yX11_init 0 := ⟨by decide +kernel, by decide +kernel, by decide +kernel⟩
def kSh (i : Nat) (st : St) : St := sI (sZ st (54 + 2 * i)) (53 + 2 * i) 4 (nI (54 + 2 * i))
set_option maxHeartbeats 4000000 in
theorem mSh (l : Launch) (X : WX) (B i : Nat) (hi : i < 6) (st : St) : CtN l yX7_init cX7_init 1 { frames := 1, cells := 1, slots := 60, locals := 12 } EK (54 + 2 * i) (54 + 2 * i + 1) X B [.ref (xq X (53 + 2 * i))] st (kSh i st) 1 60 := by
  refine ctN_in (own := RX7) (by decide +kernel) rfl rfl (Nat.le_of_ble_eq_true rfl) (fun p e s m below meth c C hw ls hl => ?_)
  obtain ⟨hx, hb, hml, hown, hts⟩ := id C.1
  have hl : lv_has ls 1 [(0, .ref (xq X (53 + 2 * i)))] := hl
  refine lv_aload_n hx hb dX7_init_0 rfl (lv_at hl 0 rfl) ?_
  refine n_obj C hl.1 km_X7_3 dX7_init_1 (Nat.le_of_ble_eq_true rfl) (Nat.le_of_ble_eq_true rfl) ?_
  refine lv_aload_n hx hb dX7_init_4 rfl (lv_at hl 0 rfl) ?_
  refine lv_bipush (v := 60) hx hb dX7_init_5 (by decide) ?_
  refine n_newa (t := 2) (atype := .long) (N' := 60) C hw ka_long (C.2.1.2 2 _ rfl).2 (EK_el X hi _ _) (fun cA => by rw [vp_cell_l]; rfl) (by decide) (by decide) (by decide) (Nat.le_of_ble_eq_true rfl) (Nat.le_of_ble_eq_true rfl) dX7_init_7 (fun H hw => ?_)
  refine n_put (T := TX7) (st' := kSh i st) C hw (by omega) 4 kf_X7_11 (EK_sh X hi _ _) rfl inA7 tyX7_ok nmX7 (by decide) (Or.inr ⟨rfl, rfl⟩) rfl rfl rfl (Nat.le_of_ble_eq_true rfl) (by unfold kSh; rw [gI_sI, gL_sI, EK_sh X hi, rfN_up X _ _ (by omega) (by omega)]; rfl) (sI_o _ _ _ _) dX7_init_9 (fun H locs hw => ?_)
  exact n_ret C hw rfl rfl rfl rfl dX7_init_12
def shSt (st : St) : Nat → St
  | 0 => st
  | i + 1 => sI (kSh i (sZ (shSt st i) (53 + 2 * i))) 52 i (nI (53 + 2 * i))
theorem shSt_o (st : St) (i a : Nat) (ha : a < 52) : gI (shSt st i) a = gI st a := by
  induction i with
  | zero => rfl
  | succ i ih =>
    rw [shSt, (sI_o _ _ _ _ a (by omega)).1]
    unfold kSh
    rw [(sI_o _ _ _ _ a (by omega)).1, (sZ_o _ _ a (by omega)).1, (sZ_o _ _ a (by omega)).1, ih]
set_option maxHeartbeats 4000000 in
theorem tX11_init {p : Program} {l : Launch} {e : Env} {s : State} {m : MethodId} {args : Array Value} {below : List Frame} {meth : Method} {c : Code} {X : WX} {B : Nat} (C : AmN X p s m args meth c cX11_init 2 RX11) (st : St) (h13 : gI st 0 13 = nI 52) :
    ∀ (d i : Nat) (H : Heap) (locs : List Loc) (ls : Array Slot), i + d = 6 → WN EK (53 + 2 * i) X B s.heap (shSt st i) H locs → lv_has ls 2 [(0, .ref (xq X 0)), (1, .int (nI i))] → W p l e { frames := 2, cells := 64, slots := 1992, locals := 34 } s m args below meth c H locs (52 + 2 * i) (1602 + 65 * i) (MQ below (va_Qv (fun (_ : Unit) => True) (fun _ t => va_P X.1 vwCl (wcl EK 65 X (shSt st 6)) t.heap ∧ t.heap.size = B + 65) (fun q : Nat => B ≤ q)) args s 64 1992 (fun q : Nat => B ≤ q)) (F0 m 177 ls []) := by
  obtain ⟨hx, hb, hml, hown, hts⟩ := id C.1
  intro d
  induction d with
  | zero =>
    intro i H locs ls hi hw hl
    have hi : i = 6 := by omega
    subst hi
    refine lv_iload_n hx hb dX11_init_177 rfl (lv_at hl 1 rfl) ?_
    refine lv_bipush (v := 6) hx hb dX11_init_178 (by decide) ?_
    refine lv_icmp_ge (tgt := 202) hx hb dX11_init_180 (by decide) (fun c1 => ?_) (fun c1 => absurd (nI_le (a := 6) (b := 6) (Nat.le_refl 6) (by omega)) c1)
    exact n_ret C hw rfl rfl rfl rfl dX11_init_202
  | succ d ih =>
    intro i H locs ls hi hw hl
    refine lv_iload_n hx hb dX11_init_177 rfl (lv_at hl 1 rfl) ?_
    refine lv_bipush (v := 6) hx hb dX11_init_178 (by decide) ?_
    refine lv_icmp_ge (tgt := 202) hx hb dX11_init_180 (by decide) (fun c1 => absurd c1 (nI_ge (a := i) (b := 6) (by omega) (by omega))) (fun c1 => ?_)
    refine lv_aload_n hx hb dX11_init_183 rfl (lv_at hl 0 rfl) ?_
    refine n_get (T := TX11) (v := .ref (xq X 52)) C hw (by omega) 13 kf_X11_98 (EK_0 X _ _) rfl inA11 (by decide) (by show some (rfN X (gI (shSt st i) 0 13)) = _; rw [shSt_o st i 0 (by omega), h13, rfN_nI X (by decide) (by decide)]) dX11_init_184 ?_
    refine lv_iload_n hx hb dX11_init_187 rfl (lv_at hl 1 rfl) ?_
    refine n_new (ty := tyX7) C hw tyX7_ok inA7 rfl kl_X11_96 kq_X7 kz_X7 (EK_sh X (by omega) _ _) (fun j9 h9 => by rcases (show j9 = 0 ∨ j9 = 1 ∨ j9 = 2 ∨ j9 = 3 ∨ j9 = 4 by omega) with rfl | rfl | rfl | rfl | rfl <;> rfl) (by dsimp only; omega) (by dsimp only; omega) dX11_init_188 (fun H hw => ?_)
    refine lv_dup hx hb dX11_init_191 rfl ?_
    refine n_go (st' := kSh i (sZ (shSt st i) (53 + 2 * i))) (N' := 54 + 2 * i + 1) (mc := 1) (ms := 60) (N := 54 + 2 * i) (rest := [.ref (xq X (53 + 2 * i)), .int (nI i), .ref (xq X 52)]) (by rw [show 54 + 2 * i = 53 + 2 * i + 1 by omega]; exact hw) (n_runIN (N := 54 + 2 * i) (rest := [.ref (xq X (53 + 2 * i)), .int (nI i), .ref (xq X 52)]) C (by rw [show 54 + 2 * i = 53 + 2 * i + 1 by omega]; exact hw) (mSh l X B i (by omega) _) C.2.2.1.2.2.2.2.2.2.1 ki_yX7_init kz_X7 kc_X7_init rfl ok_yX7_init ⟨Nat.le_of_ble_eq_true rfl, Nat.le_of_ble_eq_true rfl⟩ rfl rfl rfl rfl hl.1 (Nat.le_of_ble_eq_true rfl) dX11_init_192 ⟨by dsimp only; omega, by dsimp only; omega⟩) (fun H locs hw => ?_)
    refine n_aast (k2 := 53 + 2 * i) C hw (by omega) (by omega) (by omega) (by omega) (fun f9 => EK_52 X f9 _) (EK_sh X (by omega) _ _) (inB_nI (by omega) (by omega)) (nI_clamp (by omega)) dX11_init_195 (fun H locs hw => ?_)
    refine lv_iinc (v := nI (i + 1)) (lv' := [(1, .int (nI (i + 1))), (0, .ref (xq X 0))]) hx hb dX11_init_196 hl (k := 1) rfl (nI_1 i) (by decide) rfl (fun ls hl => ?_)
    refine lv_goto (tgt := 177) hx hb dX11_init_199 (by decide) ?_
    refine W.widen (k := 52 + 2 * (i + 1)) (n := 1602 + 65 * (i + 1)) (by omega) (by omega) ?_
    exact ih (i + 1) _ _ _ (by omega) (by rw [show 53 + 2 * (i + 1) = 54 + 2 * i + 1 by omega]; exact hw) (lv_sub hl [1, 0] rfl)
def kX11_init (st : St) : St := bnd (sZ st 1) (fun st1 => bnd (kX3_init st1) (fun st2 => bnd (sI st2 0 0 (nI 1)) (fun st3 => bnd (sZ st3 17) (fun st4 => bnd (kX4_init st4) (fun st5 => bnd (sI st5 0 1 (nI 17)) (fun st6 => bnd (sZ st6 21) (fun st7 => bnd (kX5_init st7) (fun st8 => bnd (sI st8 0 2 (nI 21)) (fun st9 => bnd (sZ st9 24) (fun st10 => bnd (kX6_init st10) (fun st11 => bnd (sI st11 0 3 (nI 24)) (fun st12 => bnd (sZ st12 27) (fun st13 => bnd (kX9_init st13) (fun st14 => bnd (sI st14 0 4 (nI 27)) (fun st15 => bnd (sZ st15 32) (fun st16 => bnd (kX10_init st16) (fun st17 => bnd (sI st17 0 5 (nI 32)) (fun st18 => bnd (sZ st18 36) (fun st19 => bnd (kX8_init st19) (fun st20 => bnd (sI st20 0 6 (nI 36)) (fun st21 => bnd (sZ st21 39) (fun st22 => bnd (kX2_init st22) (fun st23 => bnd (sI st23 0 7 (nI 39)) (fun st24 => bnd (sZ st24 41) (fun st25 => bnd (kX2_init_2 st25) (fun st26 => bnd (sI st26 0 8 (nI 41)) (fun st27 => bnd (sZ st27 43) (fun st28 => bnd (sI st28 0 9 (nI 43)) (fun st29 => bnd (sI st29 0 10 (-1)) (fun st30 => bnd (sZ st30 44) (fun st31 => bnd (kX1_init st31) (fun st32 => bnd (sI st32 0 11 (nI 44)) (fun st33 => bnd (sZ st33 49) (fun st34 => bnd (kX0_init st34) (fun st35 => bnd (sI st35 0 12 (nI 49)) (fun st36 => bnd (sZ st36 52) (fun st37 => bnd (sI st37 0 13 (nI 52)) (fun st38 => st38))))))))))))))))))))))))))))))))))))))
set_option maxHeartbeats 4000000 in
theorem mX11_init (l : Launch) (X : WX) (B : Nat) (st R0 R : St) (hf : kX11_init st = R0) (hR : shSt R0 6 = R) : CtN l yX11_init cX11_init 2 { frames := 2, cells := 64, slots := 1992, locals := 34 } EK 1 65 X B [.ref (xq X 0)] st R 64 1992 := by
  refine ctN_in (own := RX11) (by decide +kernel) rfl rfl (Nat.le_of_ble_eq_true rfl) (fun p e s m below meth c C hw ls hl => ?_)
  obtain ⟨hx, hb, hml, hown, hts⟩ := id C.1
  have hl : lv_has ls 2 [(0, .ref (xq X 0))] := hl
  have h13 : gI R0 0 13 = nI 52 := by rw [← hf]; rfl
  unfold kX11_init at hf
  refine lv_aload_n hx hb dX11_init_0 rfl (lv_at hl 0 rfl) ?_
  refine n_obj C hl.1 km_X11_1 dX11_init_1 (Nat.le_of_ble_eq_true rfl) (Nat.le_of_ble_eq_true rfl) ?_
  refine lv_aload_n hx hb dX11_init_4 rfl (lv_at hl 0 rfl) ?_
  obtain ⟨st1, es1⟩ : ∃ z : St, z = sZ st 1 := ⟨_, rfl⟩
  replace hf := bnd_nm hf es1
  refine n_new (ty := tyX3) C hw tyX3_ok inA3 rfl kl_X11_7 kq_X3 kz_X3 (EK_1 X _ _) (fun j9 h9 => by rcases (show j9 = 0 ∨ j9 = 1 ∨ j9 = 2 ∨ j9 = 3 by omega) with rfl | rfl | rfl | rfl <;> rfl) (Nat.le_of_ble_eq_true rfl) (Nat.le_of_ble_eq_true rfl) dX11_init_5 (fun H hw => ?_)
  rw [← es1] at hw
  refine lv_dup hx hb dX11_init_8 rfl ?_
  obtain ⟨st2, es2⟩ : ∃ z : St, z = kX3_init st1 := ⟨_, rfl⟩
  replace hf := bnd_nm hf es2
  refine n_go (st' := kX3_init st1) hw (n_runIN (rest := [.ref (xq X 1), .ref (xq X 0)]) C hw (mX3_init l X B st1 _ rfl) C.2.2.1.1 ki_yX3_init kz_X3 kc_X3_init rfl ok_yX3_init ⟨(Nat.le_of_ble_eq_true rfl), (Nat.le_of_ble_eq_true rfl)⟩ rfl rfl rfl rfl hl.1 (Nat.le_of_ble_eq_true rfl) dX11_init_9 ⟨(Nat.le_of_ble_eq_true rfl), (Nat.le_of_ble_eq_true rfl)⟩) (fun H locs hw => ?_)
  rw [← es2] at hw
  obtain ⟨st3, es3⟩ : ∃ z : St, z = sI st2 0 0 (nI 1) := ⟨_, rfl⟩
  replace hf := bnd_nm hf es3
  refine n_put (T := TX11) (st' := sI st2 0 0 (nI 1)) C hw (by decide) 0 kf_X11_10 (EK_0 X _ _) rfl inA11 tyX11_ok nmX11 (by decide) (Or.inr ⟨rfl, rfl⟩) rfl rfl rfl (Nat.le_of_ble_eq_true rfl) (by rw [gI_sI, gL_sI, EK_0, rfN_up X _ _ (by decide) (by decide)]; rfl) (sI_o _ _ _ _) dX11_init_12 (fun H locs hw => ?_)
  rw [← es3] at hw
  refine lv_aload_n hx hb dX11_init_15 rfl (lv_at hl 0 rfl) ?_
  obtain ⟨st4, es4⟩ : ∃ z : St, z = sZ st3 17 := ⟨_, rfl⟩
  replace hf := bnd_nm hf es4
  refine n_new (ty := tyX4) C hw tyX4_ok inA4 rfl kl_X11_16 kq_X4 kz_X4 (EK_17 X _ _) (fun j9 h9 => by rcases (show j9 = 0 ∨ j9 = 1 ∨ j9 = 2 ∨ j9 = 3 by omega) with rfl | rfl | rfl | rfl <;> rfl) (Nat.le_of_ble_eq_true rfl) (Nat.le_of_ble_eq_true rfl) dX11_init_16 (fun H hw => ?_)
  rw [← es4] at hw
  refine lv_dup hx hb dX11_init_19 rfl ?_
  obtain ⟨st5, es5⟩ : ∃ z : St, z = kX4_init st4 := ⟨_, rfl⟩
  replace hf := bnd_nm hf es5
  refine n_go (st' := kX4_init st4) hw (n_runIN (rest := [.ref (xq X 17), .ref (xq X 0)]) C hw (mX4_init l X B st4 _ rfl) C.2.2.1.2.1 ki_yX4_init kz_X4 kc_X4_init rfl ok_yX4_init ⟨(Nat.le_of_ble_eq_true rfl), (Nat.le_of_ble_eq_true rfl)⟩ rfl rfl rfl rfl hl.1 (Nat.le_of_ble_eq_true rfl) dX11_init_20 ⟨(Nat.le_of_ble_eq_true rfl), (Nat.le_of_ble_eq_true rfl)⟩) (fun H locs hw => ?_)
  rw [← es5] at hw
  obtain ⟨st6, es6⟩ : ∃ z : St, z = sI st5 0 1 (nI 17) := ⟨_, rfl⟩
  replace hf := bnd_nm hf es6
  refine n_put (T := TX11) (st' := sI st5 0 1 (nI 17)) C hw (by decide) 1 kf_X11_19 (EK_0 X _ _) rfl inA11 tyX11_ok nmX11 (by decide) (Or.inr ⟨rfl, rfl⟩) rfl rfl rfl (Nat.le_of_ble_eq_true rfl) (by rw [gI_sI, gL_sI, EK_0, rfN_up X _ _ (by decide) (by decide)]; rfl) (sI_o _ _ _ _) dX11_init_23 (fun H locs hw => ?_)
  rw [← es6] at hw
  refine lv_aload_n hx hb dX11_init_26 rfl (lv_at hl 0 rfl) ?_
  obtain ⟨st7, es7⟩ : ∃ z : St, z = sZ st6 21 := ⟨_, rfl⟩
  replace hf := bnd_nm hf es7
  refine n_new (ty := tyX5) C hw tyX5_ok inA5 rfl kl_X11_23 kq_X5 kz_X5 (EK_21 X _ _) (fun j9 h9 => by rcases (show j9 = 0 ∨ j9 = 1 ∨ j9 = 2 ∨ j9 = 3 ∨ j9 = 4 by omega) with rfl | rfl | rfl | rfl | rfl <;> rfl) (Nat.le_of_ble_eq_true rfl) (Nat.le_of_ble_eq_true rfl) dX11_init_27 (fun H hw => ?_)
  rw [← es7] at hw
  refine lv_dup hx hb dX11_init_30 rfl ?_
  obtain ⟨st8, es8⟩ : ∃ z : St, z = kX5_init st7 := ⟨_, rfl⟩
  replace hf := bnd_nm hf es8
  refine n_go (st' := kX5_init st7) hw (n_runIN (rest := [.ref (xq X 21), .ref (xq X 0)]) C hw (mX5_init l X B st7 _ rfl) C.2.2.1.2.2.1 ki_yX5_init kz_X5 kc_X5_init rfl ok_yX5_init ⟨(Nat.le_of_ble_eq_true rfl), (Nat.le_of_ble_eq_true rfl)⟩ rfl rfl rfl rfl hl.1 (Nat.le_of_ble_eq_true rfl) dX11_init_31 ⟨(Nat.le_of_ble_eq_true rfl), (Nat.le_of_ble_eq_true rfl)⟩) (fun H locs hw => ?_)
  rw [← es8] at hw
  obtain ⟨st9, es9⟩ : ∃ z : St, z = sI st8 0 2 (nI 21) := ⟨_, rfl⟩
  replace hf := bnd_nm hf es9
  refine n_put (T := TX11) (st' := sI st8 0 2 (nI 21)) C hw (by decide) 2 kf_X11_26 (EK_0 X _ _) rfl inA11 tyX11_ok nmX11 (by decide) (Or.inr ⟨rfl, rfl⟩) rfl rfl rfl (Nat.le_of_ble_eq_true rfl) (by rw [gI_sI, gL_sI, EK_0, rfN_up X _ _ (by decide) (by decide)]; rfl) (sI_o _ _ _ _) dX11_init_34 (fun H locs hw => ?_)
  rw [← es9] at hw
  refine lv_aload_n hx hb dX11_init_37 rfl (lv_at hl 0 rfl) ?_
  obtain ⟨st10, es10⟩ : ∃ z : St, z = sZ st9 24 := ⟨_, rfl⟩
  replace hf := bnd_nm hf es10
  refine n_new (ty := tyX6) C hw tyX6_ok inA6 rfl kl_X11_30 kq_X6 kz_X6 (EK_24 X _ _) (fun j9 h9 => by rcases (show j9 = 0 ∨ j9 = 1 ∨ j9 = 2 ∨ j9 = 3 ∨ j9 = 4 ∨ j9 = 5 ∨ j9 = 6 by omega) with rfl | rfl | rfl | rfl | rfl | rfl | rfl <;> rfl) (Nat.le_of_ble_eq_true rfl) (Nat.le_of_ble_eq_true rfl) dX11_init_38 (fun H hw => ?_)
  rw [← es10] at hw
  refine lv_dup hx hb dX11_init_41 rfl ?_
  refine lv_aload_n hx hb dX11_init_42 rfl (lv_at hl 0 rfl) ?_
  refine n_get (T := TX11) (v := .ref (xq X 1)) C hw (by decide) 0 kf_X11_10 (EK_0 X _ _) rfl inA11 (by decide) (by show some (rfN X (gI st10 0 0)) = _; rw [show gI st10 0 0 = nI 1 from by rw [es10, es9, es8, es7, es6, es5, es4, es3, es2, es1]; rfl, rfN_nI X (by decide) (by decide)]) dX11_init_43 ?_
  refine lv_aload_n hx hb dX11_init_46 rfl (lv_at hl 0 rfl) ?_
  refine n_get (T := TX11) (v := .ref (xq X 17)) C hw (by decide) 1 kf_X11_19 (EK_0 X _ _) rfl inA11 (by decide) (by show some (rfN X (gI st10 0 1)) = _; rw [show gI st10 0 1 = nI 17 from by rw [es10, es9, es8, es7, es6, es5, es4, es3, es2, es1]; rfl, rfN_nI X (by decide) (by decide)]) dX11_init_47 ?_
  obtain ⟨st11, es11⟩ : ∃ z : St, z = kX6_init st10 := ⟨_, rfl⟩
  replace hf := bnd_nm hf es11
  refine n_go (st' := kX6_init st10) hw (n_runI (rest := [.ref (xq X 24), .ref (xq X 0)]) C hw (mX6_init l X B st10 _ rfl) km_X11_32 ki_yX6_init kz_X6 kc_X6_init rfl ok_yX6_init ⟨(Nat.le_of_ble_eq_true rfl), (Nat.le_of_ble_eq_true rfl)⟩ rfl rfl rfl rfl hl.1 (Nat.le_of_ble_eq_true rfl) dX11_init_50 ⟨(Nat.le_of_ble_eq_true rfl), (Nat.le_of_ble_eq_true rfl)⟩) (fun H locs hw => ?_)
  rw [← es11] at hw
  obtain ⟨st12, es12⟩ : ∃ z : St, z = sI st11 0 3 (nI 24) := ⟨_, rfl⟩
  replace hf := bnd_nm hf es12
  refine n_put (T := TX11) (st' := sI st11 0 3 (nI 24)) C hw (by decide) 3 kf_X11_35 (EK_0 X _ _) rfl inA11 tyX11_ok nmX11 (by decide) (Or.inr ⟨rfl, rfl⟩) rfl rfl rfl (Nat.le_of_ble_eq_true rfl) (by rw [gI_sI, gL_sI, EK_0, rfN_up X _ _ (by decide) (by decide)]; rfl) (sI_o _ _ _ _) dX11_init_53 (fun H locs hw => ?_)
  rw [← es12] at hw
  refine lv_aload_n hx hb dX11_init_56 rfl (lv_at hl 0 rfl) ?_
  obtain ⟨st13, es13⟩ : ∃ z : St, z = sZ st12 27 := ⟨_, rfl⟩
  replace hf := bnd_nm hf es13
  refine n_new (ty := tyX9) C hw tyX9_ok inA9 rfl kl_X11_39 kq_X9 kz_X9 (EK_27 X _ _) (fun j9 h9 => by rcases (show j9 = 0 ∨ j9 = 1 ∨ j9 = 2 ∨ j9 = 3 ∨ j9 = 4 ∨ j9 = 5 ∨ j9 = 6 ∨ j9 = 7 by omega) with rfl | rfl | rfl | rfl | rfl | rfl | rfl | rfl <;> rfl) (Nat.le_of_ble_eq_true rfl) (Nat.le_of_ble_eq_true rfl) dX11_init_57 (fun H hw => ?_)
  rw [← es13] at hw
  refine lv_dup hx hb dX11_init_60 rfl ?_
  refine lv_aload_n hx hb dX11_init_61 rfl (lv_at hl 0 rfl) ?_
  refine n_get (T := TX11) (v := .ref (xq X 1)) C hw (by decide) 0 kf_X11_10 (EK_0 X _ _) rfl inA11 (by decide) (by show some (rfN X (gI st13 0 0)) = _; rw [show gI st13 0 0 = nI 1 from by rw [es13, es12, es11, es10, es9, es8, es7, es6, es5, es4, es3, es2, es1]; rfl, rfN_nI X (by decide) (by decide)]) dX11_init_62 ?_
  refine lv_aload_n hx hb dX11_init_65 rfl (lv_at hl 0 rfl) ?_
  refine n_get (T := TX11) (v := .ref (xq X 24)) C hw (by decide) 3 kf_X11_35 (EK_0 X _ _) rfl inA11 (by decide) (by show some (rfN X (gI st13 0 3)) = _; rw [show gI st13 0 3 = nI 24 from by rw [es13, es12, es11, es10, es9, es8, es7, es6, es5, es4, es3, es2, es1]; rfl, rfN_nI X (by decide) (by decide)]) dX11_init_66 ?_
  obtain ⟨st14, es14⟩ : ∃ z : St, z = kX9_init st13 := ⟨_, rfl⟩
  replace hf := bnd_nm hf es14
  refine n_go (st' := kX9_init st13) hw (n_runI (rest := [.ref (xq X 27), .ref (xq X 0)]) C hw (mX9_init l X B st13 _ rfl) km_X11_41 ki_yX9_init kz_X9 kc_X9_init rfl ok_yX9_init ⟨(Nat.le_of_ble_eq_true rfl), (Nat.le_of_ble_eq_true rfl)⟩ rfl rfl rfl rfl hl.1 (Nat.le_of_ble_eq_true rfl) dX11_init_69 ⟨(Nat.le_of_ble_eq_true rfl), (Nat.le_of_ble_eq_true rfl)⟩) (fun H locs hw => ?_)
  rw [← es14] at hw
  obtain ⟨st15, es15⟩ : ∃ z : St, z = sI st14 0 4 (nI 27) := ⟨_, rfl⟩
  replace hf := bnd_nm hf es15
  refine n_put (T := TX11) (st' := sI st14 0 4 (nI 27)) C hw (by decide) 4 kf_X11_44 (EK_0 X _ _) rfl inA11 tyX11_ok nmX11 (by decide) (Or.inr ⟨rfl, rfl⟩) rfl rfl rfl (Nat.le_of_ble_eq_true rfl) (by rw [gI_sI, gL_sI, EK_0, rfN_up X _ _ (by decide) (by decide)]; rfl) (sI_o _ _ _ _) dX11_init_72 (fun H locs hw => ?_)
  rw [← es15] at hw
  refine lv_aload_n hx hb dX11_init_75 rfl (lv_at hl 0 rfl) ?_
  obtain ⟨st16, es16⟩ : ∃ z : St, z = sZ st15 32 := ⟨_, rfl⟩
  replace hf := bnd_nm hf es16
  refine n_new (ty := tyX10) C hw tyX10_ok inA10 rfl kl_X11_48 kq_X10 kz_X10 (EK_32 X _ _) (fun j9 h9 => by rcases (show j9 = 0 ∨ j9 = 1 ∨ j9 = 2 ∨ j9 = 3 ∨ j9 = 4 ∨ j9 = 5 ∨ j9 = 6 by omega) with rfl | rfl | rfl | rfl | rfl | rfl | rfl <;> rfl) (Nat.le_of_ble_eq_true rfl) (Nat.le_of_ble_eq_true rfl) dX11_init_76 (fun H hw => ?_)
  rw [← es16] at hw
  refine lv_dup hx hb dX11_init_79 rfl ?_
  refine lv_aload_n hx hb dX11_init_80 rfl (lv_at hl 0 rfl) ?_
  refine n_get (T := TX11) (v := .ref (xq X 1)) C hw (by decide) 0 kf_X11_10 (EK_0 X _ _) rfl inA11 (by decide) (by show some (rfN X (gI st16 0 0)) = _; rw [show gI st16 0 0 = nI 1 from by rw [es16, es15, es14, es13, es12, es11, es10, es9, es8, es7, es6, es5, es4, es3, es2, es1]; rfl, rfN_nI X (by decide) (by decide)]) dX11_init_81 ?_
  refine lv_aload_n hx hb dX11_init_84 rfl (lv_at hl 0 rfl) ?_
  refine n_get (T := TX11) (v := .ref (xq X 24)) C hw (by decide) 3 kf_X11_35 (EK_0 X _ _) rfl inA11 (by decide) (by show some (rfN X (gI st16 0 3)) = _; rw [show gI st16 0 3 = nI 24 from by rw [es16, es15, es14, es13, es12, es11, es10, es9, es8, es7, es6, es5, es4, es3, es2, es1]; rfl, rfN_nI X (by decide) (by decide)]) dX11_init_85 ?_
  obtain ⟨st17, es17⟩ : ∃ z : St, z = kX10_init st16 := ⟨_, rfl⟩
  replace hf := bnd_nm hf es17
  refine n_go (st' := kX10_init st16) hw (n_runI (rest := [.ref (xq X 32), .ref (xq X 0)]) C hw (mX10_init l X B st16 _ rfl) km_X11_50 ki_yX10_init kz_X10 kc_X10_init rfl ok_yX10_init ⟨(Nat.le_of_ble_eq_true rfl), (Nat.le_of_ble_eq_true rfl)⟩ rfl rfl rfl rfl hl.1 (Nat.le_of_ble_eq_true rfl) dX11_init_88 ⟨(Nat.le_of_ble_eq_true rfl), (Nat.le_of_ble_eq_true rfl)⟩) (fun H locs hw => ?_)
  rw [← es17] at hw
  obtain ⟨st18, es18⟩ : ∃ z : St, z = sI st17 0 5 (nI 32) := ⟨_, rfl⟩
  replace hf := bnd_nm hf es18
  refine n_put (T := TX11) (st' := sI st17 0 5 (nI 32)) C hw (by decide) 5 kf_X11_51 (EK_0 X _ _) rfl inA11 tyX11_ok nmX11 (by decide) (Or.inr ⟨rfl, rfl⟩) rfl rfl rfl (Nat.le_of_ble_eq_true rfl) (by rw [gI_sI, gL_sI, EK_0, rfN_up X _ _ (by decide) (by decide)]; rfl) (sI_o _ _ _ _) dX11_init_91 (fun H locs hw => ?_)
  rw [← es18] at hw
  refine lv_aload_n hx hb dX11_init_94 rfl (lv_at hl 0 rfl) ?_
  obtain ⟨st19, es19⟩ : ∃ z : St, z = sZ st18 36 := ⟨_, rfl⟩
  replace hf := bnd_nm hf es19
  refine n_new (ty := tyX8) C hw tyX8_ok inA8 rfl kl_X11_55 kq_X8 kz_X8 (EK_36 X _ _) (fun j9 h9 => by rcases (show j9 = 0 ∨ j9 = 1 ∨ j9 = 2 ∨ j9 = 3 ∨ j9 = 4 ∨ j9 = 5 ∨ j9 = 6 by omega) with rfl | rfl | rfl | rfl | rfl | rfl | rfl <;> rfl) (Nat.le_of_ble_eq_true rfl) (Nat.le_of_ble_eq_true rfl) dX11_init_95 (fun H hw => ?_)
  rw [← es19] at hw
  refine lv_dup hx hb dX11_init_98 rfl ?_
  refine lv_aload_n hx hb dX11_init_99 rfl (lv_at hl 0 rfl) ?_
  refine n_get (T := TX11) (v := .ref (xq X 1)) C hw (by decide) 0 kf_X11_10 (EK_0 X _ _) rfl inA11 (by decide) (by show some (rfN X (gI st19 0 0)) = _; rw [show gI st19 0 0 = nI 1 from by rw [es19, es18, es17, es16, es15, es14, es13, es12, es11, es10, es9, es8, es7, es6, es5, es4, es3, es2, es1]; rfl, rfN_nI X (by decide) (by decide)]) dX11_init_100 ?_
  obtain ⟨st20, es20⟩ : ∃ z : St, z = kX8_init st19 := ⟨_, rfl⟩
  replace hf := bnd_nm hf es20
  refine n_go (st' := kX8_init st19) hw (n_runI (rest := [.ref (xq X 36), .ref (xq X 0)]) C hw (mX8_init l X B st19 _ rfl) km_X11_57 ki_yX8_init kz_X8 kc_X8_init rfl ok_yX8_init ⟨(Nat.le_of_ble_eq_true rfl), (Nat.le_of_ble_eq_true rfl)⟩ rfl rfl rfl rfl hl.1 (Nat.le_of_ble_eq_true rfl) dX11_init_103 ⟨(Nat.le_of_ble_eq_true rfl), (Nat.le_of_ble_eq_true rfl)⟩) (fun H locs hw => ?_)
  rw [← es20] at hw
  obtain ⟨st21, es21⟩ : ∃ z : St, z = sI st20 0 6 (nI 36) := ⟨_, rfl⟩
  replace hf := bnd_nm hf es21
  refine n_put (T := TX11) (st' := sI st20 0 6 (nI 36)) C hw (by decide) 6 kf_X11_60 (EK_0 X _ _) rfl inA11 tyX11_ok nmX11 (by decide) (Or.inr ⟨rfl, rfl⟩) rfl rfl rfl (Nat.le_of_ble_eq_true rfl) (by rw [gI_sI, gL_sI, EK_0, rfN_up X _ _ (by decide) (by decide)]; rfl) (sI_o _ _ _ _) dX11_init_106 (fun H locs hw => ?_)
  rw [← es21] at hw
  refine lv_aload_n hx hb dX11_init_109 rfl (lv_at hl 0 rfl) ?_
  obtain ⟨st22, es22⟩ : ∃ z : St, z = sZ st21 39 := ⟨_, rfl⟩
  replace hf := bnd_nm hf es22
  refine n_new (ty := tyX2) C hw tyX2_ok inA2 rfl kl_X11_64 kq_X2 kz_X2 (EK_39 X _ _) (fun j9 h9 => by rcases (show j9 = 0 ∨ j9 = 1 ∨ j9 = 2 ∨ j9 = 3 ∨ j9 = 4 by omega) with rfl | rfl | rfl | rfl | rfl <;> rfl) (Nat.le_of_ble_eq_true rfl) (Nat.le_of_ble_eq_true rfl) dX11_init_110 (fun H hw => ?_)
  rw [← es22] at hw
  refine lv_dup hx hb dX11_init_113 rfl ?_
  obtain ⟨st23, es23⟩ : ∃ z : St, z = kX2_init st22 := ⟨_, rfl⟩
  replace hf := bnd_nm hf es23
  refine n_go (st' := kX2_init st22) hw (n_runIN (rest := [.ref (xq X 39), .ref (xq X 0)]) C hw (mX2_init l X B st22 _ rfl) C.2.2.1.2.2.2.1 ki_yX2_init kz_X2 kc_X2_init rfl ok_yX2_init ⟨(Nat.le_of_ble_eq_true rfl), (Nat.le_of_ble_eq_true rfl)⟩ rfl rfl rfl rfl hl.1 (Nat.le_of_ble_eq_true rfl) dX11_init_114 ⟨(Nat.le_of_ble_eq_true rfl), (Nat.le_of_ble_eq_true rfl)⟩) (fun H locs hw => ?_)
  rw [← es23] at hw
  obtain ⟨st24, es24⟩ : ∃ z : St, z = sI st23 0 7 (nI 39) := ⟨_, rfl⟩
  replace hf := bnd_nm hf es24
  refine n_put (T := TX11) (st' := sI st23 0 7 (nI 39)) C hw (by decide) 7 kf_X11_67 (EK_0 X _ _) rfl inA11 tyX11_ok nmX11 (by decide) (Or.inr ⟨rfl, rfl⟩) rfl rfl rfl (Nat.le_of_ble_eq_true rfl) (by rw [gI_sI, gL_sI, EK_0, rfN_up X _ _ (by decide) (by decide)]; rfl) (sI_o _ _ _ _) dX11_init_117 (fun H locs hw => ?_)
  rw [← es24] at hw
  refine lv_aload_n hx hb dX11_init_120 rfl (lv_at hl 0 rfl) ?_
  obtain ⟨st25, es25⟩ : ∃ z : St, z = sZ st24 41 := ⟨_, rfl⟩
  replace hf := bnd_nm hf es25
  refine n_new (ty := tyX2) C hw tyX2_ok inA2 rfl kl_X11_64 kq_X2 kz_X2 (EK_41 X _ _) (fun j9 h9 => by rcases (show j9 = 0 ∨ j9 = 1 ∨ j9 = 2 ∨ j9 = 3 ∨ j9 = 4 by omega) with rfl | rfl | rfl | rfl | rfl <;> rfl) (Nat.le_of_ble_eq_true rfl) (Nat.le_of_ble_eq_true rfl) dX11_init_121 (fun H hw => ?_)
  rw [← es25] at hw
  refine lv_dup hx hb dX11_init_124 rfl ?_
  obtain ⟨st26, es26⟩ : ∃ z : St, z = kX2_init_2 st25 := ⟨_, rfl⟩
  replace hf := bnd_nm hf es26
  refine n_go (st' := kX2_init_2 st25) hw (n_runIN (rest := [.ref (xq X 41), .ref (xq X 0)]) C hw (mX2_init_2 l X B st25 _ rfl) C.2.2.1.2.2.2.1 ki_yX2_init kz_X2 kc_X2_init rfl ok_yX2_init ⟨(Nat.le_of_ble_eq_true rfl), (Nat.le_of_ble_eq_true rfl)⟩ rfl rfl rfl rfl hl.1 (Nat.le_of_ble_eq_true rfl) dX11_init_125 ⟨(Nat.le_of_ble_eq_true rfl), (Nat.le_of_ble_eq_true rfl)⟩) (fun H locs hw => ?_)
  rw [← es26] at hw
  obtain ⟨st27, es27⟩ : ∃ z : St, z = sI st26 0 8 (nI 41) := ⟨_, rfl⟩
  replace hf := bnd_nm hf es27
  refine n_put (T := TX11) (st' := sI st26 0 8 (nI 41)) C hw (by decide) 8 kf_X11_71 (EK_0 X _ _) rfl inA11 tyX11_ok nmX11 (by decide) (Or.inr ⟨rfl, rfl⟩) rfl rfl rfl (Nat.le_of_ble_eq_true rfl) (by rw [gI_sI, gL_sI, EK_0, rfN_up X _ _ (by decide) (by decide)]; rfl) (sI_o _ _ _ _) dX11_init_128 (fun H locs hw => ?_)
  rw [← es27] at hw
  refine lv_aload_n hx hb dX11_init_131 rfl (lv_at hl 0 rfl) ?_
  refine lv_bipush (v := 8) hx hb dX11_init_132 (by decide) ?_
  obtain ⟨st28, es28⟩ : ∃ z : St, z = sZ st27 43 := ⟨_, rfl⟩
  replace hf := bnd_nm hf es28
  refine n_newa (t := 1) (atype := .int) (N' := 8) C hw ka_int (C.2.1.2 1 _ rfl).2 (EK_43 X _ _) (fun cA => by rw [vp_cell_i]; rfl) (by decide) (by decide) (by decide) (Nat.le_of_ble_eq_true rfl) (Nat.le_of_ble_eq_true rfl) dX11_init_134 (fun H hw => ?_)
  rw [← es28] at hw
  obtain ⟨st29, es29⟩ : ∃ z : St, z = sI st28 0 9 (nI 43) := ⟨_, rfl⟩
  replace hf := bnd_nm hf es29
  refine n_put (T := TX11) (st' := sI st28 0 9 (nI 43)) C hw (by decide) 9 kf_X11_74 (EK_0 X _ _) rfl inA11 tyX11_ok nmX11 (by decide) (Or.inr ⟨rfl, rfl⟩) rfl rfl rfl (Nat.le_of_ble_eq_true rfl) (by rw [gI_sI, gL_sI, EK_0, rfN_up X _ _ (by decide) (by decide)]; rfl) (sI_o _ _ _ _) dX11_init_136 (fun H locs hw => ?_)
  rw [← es29] at hw
  refine lv_aload_n hx hb dX11_init_139 rfl (lv_at hl 0 rfl) ?_
  refine lv_iconst (v := -1) hx hb dX11_init_140 (by decide) ?_
  obtain ⟨st30, es30⟩ : ∃ z : St, z = sI st29 0 10 (-1) := ⟨_, rfl⟩
  replace hf := bnd_nm hf es30
  refine n_put (T := TX11) (st' := sI st29 0 10 (-1)) C hw (by decide) 10 kf_X11_78 (EK_0 X _ _) rfl inA11 tyX11_ok nmX11 (by decide) (Or.inl rfl) rfl rfl rfl (Nat.le_of_ble_eq_true rfl) (by rw [gI_sI, gL_sI, EK_0]; rfl) (sI_o _ _ _ _) dX11_init_141 (fun H locs hw => ?_)
  rw [← es30] at hw
  refine lv_aload_n hx hb dX11_init_144 rfl (lv_at hl 0 rfl) ?_
  obtain ⟨st31, es31⟩ : ∃ z : St, z = sZ st30 44 := ⟨_, rfl⟩
  replace hf := bnd_nm hf es31
  refine n_new (ty := tyX1) C hw tyX1_ok inA1 rfl kl_X11_82 kq_X1 kz_X1 (EK_44 X _ _) (fun j9 h9 => by rcases (show j9 = 0 ∨ j9 = 1 ∨ j9 = 2 ∨ j9 = 3 ∨ j9 = 4 ∨ j9 = 5 by omega) with rfl | rfl | rfl | rfl | rfl | rfl <;> rfl) (Nat.le_of_ble_eq_true rfl) (Nat.le_of_ble_eq_true rfl) dX11_init_145 (fun H hw => ?_)
  rw [← es31] at hw
  refine lv_dup hx hb dX11_init_148 rfl ?_
  obtain ⟨st32, es32⟩ : ∃ z : St, z = kX1_init st31 := ⟨_, rfl⟩
  replace hf := bnd_nm hf es32
  refine n_go (st' := kX1_init st31) hw (n_runIN (rest := [.ref (xq X 44), .ref (xq X 0)]) C hw (mX1_init l X B st31 _ rfl) C.2.2.1.2.2.2.2.1 ki_yX1_init kz_X1 kc_X1_init rfl ok_yX1_init ⟨(Nat.le_of_ble_eq_true rfl), (Nat.le_of_ble_eq_true rfl)⟩ rfl rfl rfl rfl hl.1 (Nat.le_of_ble_eq_true rfl) dX11_init_149 ⟨(Nat.le_of_ble_eq_true rfl), (Nat.le_of_ble_eq_true rfl)⟩) (fun H locs hw => ?_)
  rw [← es32] at hw
  obtain ⟨st33, es33⟩ : ∃ z : St, z = sI st32 0 11 (nI 44) := ⟨_, rfl⟩
  replace hf := bnd_nm hf es33
  refine n_put (T := TX11) (st' := sI st32 0 11 (nI 44)) C hw (by decide) 11 kf_X11_85 (EK_0 X _ _) rfl inA11 tyX11_ok nmX11 (by decide) (Or.inr ⟨rfl, rfl⟩) rfl rfl rfl (Nat.le_of_ble_eq_true rfl) (by rw [gI_sI, gL_sI, EK_0, rfN_up X _ _ (by decide) (by decide)]; rfl) (sI_o _ _ _ _) dX11_init_152 (fun H locs hw => ?_)
  rw [← es33] at hw
  refine lv_aload_n hx hb dX11_init_155 rfl (lv_at hl 0 rfl) ?_
  obtain ⟨st34, es34⟩ : ∃ z : St, z = sZ st33 49 := ⟨_, rfl⟩
  replace hf := bnd_nm hf es34
  refine n_new (ty := tyX0) C hw tyX0_ok inA0 rfl kl_X11_89 kq_X0 kz_X0 (EK_49 X _ _) (fun j9 h9 => by rcases (show j9 = 0 ∨ j9 = 1 ∨ j9 = 2 ∨ j9 = 3 by omega) with rfl | rfl | rfl | rfl <;> rfl) (Nat.le_of_ble_eq_true rfl) (Nat.le_of_ble_eq_true rfl) dX11_init_156 (fun H hw => ?_)
  rw [← es34] at hw
  refine lv_dup hx hb dX11_init_159 rfl ?_
  obtain ⟨st35, es35⟩ : ∃ z : St, z = kX0_init st34 := ⟨_, rfl⟩
  replace hf := bnd_nm hf es35
  refine n_go (st' := kX0_init st34) hw (n_runIN (rest := [.ref (xq X 49), .ref (xq X 0)]) C hw (mX0_init l X B st34 _ rfl) C.2.2.1.2.2.2.2.2.1 ki_yX0_init kz_X0 kc_X0_init rfl ok_yX0_init ⟨(Nat.le_of_ble_eq_true rfl), (Nat.le_of_ble_eq_true rfl)⟩ rfl rfl rfl rfl hl.1 (Nat.le_of_ble_eq_true rfl) dX11_init_160 ⟨(Nat.le_of_ble_eq_true rfl), (Nat.le_of_ble_eq_true rfl)⟩) (fun H locs hw => ?_)
  rw [← es35] at hw
  obtain ⟨st36, es36⟩ : ∃ z : St, z = sI st35 0 12 (nI 49) := ⟨_, rfl⟩
  replace hf := bnd_nm hf es36
  refine n_put (T := TX11) (st' := sI st35 0 12 (nI 49)) C hw (by decide) 12 kf_X11_92 (EK_0 X _ _) rfl inA11 tyX11_ok nmX11 (by decide) (Or.inr ⟨rfl, rfl⟩) rfl rfl rfl (Nat.le_of_ble_eq_true rfl) (by rw [gI_sI, gL_sI, EK_0, rfN_up X _ _ (by decide) (by decide)]; rfl) (sI_o _ _ _ _) dX11_init_163 (fun H locs hw => ?_)
  rw [← es36] at hw
  refine lv_aload_n hx hb dX11_init_166 rfl (lv_at hl 0 rfl) ?_
  refine lv_bipush (v := 6) hx hb dX11_init_167 (by decide) ?_
  obtain ⟨st37, es37⟩ : ∃ z : St, z = sZ st36 52 := ⟨_, rfl⟩
  replace hf := bnd_nm hf es37
  refine n_anew (N' := 6) C hw kl_X11_96 (EK_52 X _ _) (by decide) (by decide) (by decide) (Nat.le_of_ble_eq_true rfl) (Nat.le_of_ble_eq_true rfl) dX11_init_169 (fun H hw => ?_)
  rw [← es37] at hw
  obtain ⟨st38, es38⟩ : ∃ z : St, z = sI st37 0 13 (nI 52) := ⟨_, rfl⟩
  replace hf := bnd_nm hf es38
  refine n_put (T := TX11) (st' := sI st37 0 13 (nI 52)) C hw (by decide) 13 kf_X11_98 (EK_0 X _ _) rfl inA11 tyX11_ok nmX11 (by decide) (Or.inr ⟨rfl, rfl⟩) rfl rfl rfl (Nat.le_of_ble_eq_true rfl) (by rw [gI_sI, gL_sI, EK_0, rfN_up X _ _ (by decide) (by decide)]; rfl) (sI_o _ _ _ _) dX11_init_172 (fun H locs hw => ?_)
  rw [← es38] at hw
  refine lv_iconst (v := 0) hx hb dX11_init_175 (by decide) ?_
  refine lv_istore_n (lv' := [(1, .int 0), (0, .ref (xq X 0))]) hx hb dX11_init_176 rfl hl (by decide) rfl (fun ls hl => ?_)
  rw [hf] at hw
  subst hR
  exact tX11_init C R0 h13 6 0 _ _ _ (by omega) hw (lv_sub hl [1, 0] rfl)
