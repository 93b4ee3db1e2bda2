def z0 : St := (fun _ _ => 0, fun _ _ => 0)
/-- the class as it is made, the reference as it is made -/
def c0 : St := shSt (kX11_init (sZ z0 0)) 6
def d0 : St := kX12_init (sZ z0 0)
section LM
variable {p : Program} {l : Launch} {e : Env} {R : Room} {s : State} {m : MethodId} {args : Array Value} {below : List Frame} {meth : Method} {c : Code} {H : Heap} {locs : List Loc} {cells slots : Nat} {Q : State → Prop}
variable {cc : ByteArray} {pc : Nat} {ls : Array Slot} {rest : List Value} {E : EF} {N nL : Nat} {X : WX} {st st' : St} {own : String}
theorem l_make {ci idx1 idx2 NN mc ms maxL : Nat} {T : u_T} {Cn : String} {fs : List Value} {ty : Nat → FieldType} {y : MethodName} {b : ByteArray} {rm : Room} {A0 : Nat → Prop} (hF : CallFix p m c cc nL s args wsA own) (hK : va_K X.1 vwCl (xty X) s) (hN : NW s) (hS : va_S A0 s.heap H locs) (hA0 : ∀ q, H.size ≤ q → A0 q) (hq : ∀ k, xq X k = H.size + k) (hty : ∀ k, k < NN → parseFieldDescriptor (T k).2.2.1 = some (ty k)) (hin : ∀ w ∈ u_ws Cn T NN, w ∈ wsA) (hc : vwCl[ci]? = some (Cn, T, NN)) (g1 : Cond.classLink own idx1 Cn ∈ wsA) (g2 : Cond.instantiable Cn NN ∈ wsA) (g3 : Cond.initialized Cn ∈ wsA) (hE : E X 0 (fun _ => 0) (fun _ => 0) = .inr (ci, fs)) (hfs : ∀ j, j < NN → defaultValue (ty j) = vp_V fs j) (hM : CtN l y b maxL rm E 1 N X H.size [.ref (xq X 0)] (sZ st 0) st' mc ms) (m1 : Cond.methodLink own idx2 y ∈ wsA) (m2 : Cond.instanceMethod y ∈ wsA) (m4 : Cond.initialized y.cls ∈ wsA) (m5 : Cond.code y b maxL none ∈ wsA) (hyn : y.name = "<init>") (hd : yOk y 0) (hR : rm.frames + 1 ≤ R.frames ∧ 8 + (maxL + 11) + rm.locals ≤ R.locals) (hrc : rm.cells = mc) (hrs : rm.slots = ms) (hsz : ls.size = nL) (hW : ((Value.ref (xq X 0) :: rest).map fun v => v.category).sum ≤ 8) (d1 : decode cc pc = .ok (.new idx1, 3)) (d2 : decode cc (pc + 3) = .ok (.dup, 1)) (d3 : decode cc (pc + 3 + 1) = .ok (.invokespecial idx2, 3)) (h1c : cells + 1 ≤ R.cells) (h1s : slots + NN ≤ R.slots) (h2c : cells + 1 + mc ≤ R.cells) (h2s : slots + NN + ms ≤ R.slots)
    (kk : ∀ (H2 : Heap) (locs2 : List Loc), va_P X.1 vwCl (wcl E N X st') H2 → H2.size = H.size + N → (∀ q, q < H.size → H2[q]? = H[q]?) → va_S A0 s.heap H2 locs2 → W p l e R s m args below meth c H2 locs2 (cells + 1 + mc) (slots + NN + ms) Q (F0 m (pc + 3 + 1 + 3) ls (.ref (xq X 0) :: rest))) : W p l e R s m args below meth c H locs cells slots Q (F0 m pc ls rest) := by
  obtain ⟨hx, hb, hml, hown, hts⟩ := id hF
  have hKn := hK.1 ci _ hc
  have hq0 : xq X 0 = H.size := by rw [hq]; rfl
  refine W.newcK hx hb hown (hts _ g1) (hts _ g2) (hts _ g3) rfl d1 h1c h1s hKn.2.1 rfl fun H1 kC hkC e1 z1 o1 => ?_
  show W p l e R s m args below meth c H1 locs (cells + 1) (slots + NN) Q (F0 m (pc + 3) ls (.ref H.size :: rest))
  rw [← hq0]
  have hP1 : va_P X.1 vwCl (wcl E 1 X (sZ st 0)) H1 := fun k x hx => by
    by_cases hk : k < 1
    · have ek : k = 0 := by omega
      subst ek
      rw [wcl_get (by omega), gI_sZ, gL_sZ, hE] at hx
      cases hx
      refine ⟨_, hc, ?_⟩
      show t_OB (xq X 0) _ _ _ _ _
      rw [hq0]
      exact (u_born ty hts hin hKn hkC e1 hty).to hfs
    · have h1 : (wcl E 1 X (sZ st 0)).length = 1 := by simp [wcl]
      rw [List.getElem?_eq_none (by omega)] at hx
      cases hx
  have hS1 : va_S A0 s.heap H1 locs := ⟨Nat.le_trans hS.1 (by omega), fun x h1 h2 => (o1 x (Nat.lt_of_lt_of_le h1 hS.1)).trans (hS.2.1 x h1 h2), hS.2.2⟩
  refine lv_dup hx hb d2 rfl ?_
  refine va_callv (va_runI (As := []) (rest := .ref (xq X 0) :: rest) hF hM (cwI 0 hts (gw_C m5) rfl hrc hrs (hts _ m4) (hts _ m1) (hts _ m2) hyn hd hR) ⟨PN.blind, fun U hU hW => ⟨rfl, by rw [hU]; exact hP1, hq, by rw [hU]; exact z1, va_K.moved hW.alike hK, hN.go hW⟩⟩ rfl rfl hsz rfl (lv_room hW) d3 ⟨h2c, h2s⟩) hS1 (fun q _ h => hA0 q h) (fun q h => hA0 q h) (fun u t H2 locs2 ht hvm hp hB hz hk hS2 => ?_)
  exact kk H2 locs2 (by rw [← ht]; exact hB.1) (by rw [← ht]; exact hB.2) (fun q h => (hk q (by omega) (by show ¬ (Array.size H ≤ q); omega)).trans (o1 q h)) hS2
end LM
/-- a row of references is what its places are -/
theorem va_at_q {D : va_G} {cl : List vw_C} {a n : Nat} {cA : ClassId} {f g : Nat → Option Nat} {H : Heap} (h : va_at D cl (a, .inl (cA, n, .inr (.inr (.inr (.inr f))))) H) (he : ∀ i, i < n → f i = g i) : va_at D cl (a, .inl (cA, n, .inr (.inr (.inr (.inr g))))) H := by
  have h1 : H[a]? = some (vp_cell cA (n, .inr (.inr (.inr (.inr f))))) := h
  show H[a]? = some (vp_cell cA (n, .inr (.inr (.inr (.inr g)))))
  rw [h1, vp_cell_q, vp_cell_q]
  unfold arrV
  congr 2
  congr 1
  funext j
  show va_rf (f j.val) = va_rf (g j.val)
  rw [he j.val j.isLt]
set_option maxRecDepth 100000 in
set_option maxHeartbeats 4000000 in
theorem c0_refs : gI c0 0 0 = nI 1 ∧ gI c0 0 1 = nI 17 ∧ gI c0 0 2 = nI 21 ∧ gI c0 0 3 = nI 24 ∧ gI c0 0 4 = nI 27 ∧ gI c0 0 5 = nI 32 ∧ gI c0 0 6 = nI 36 ∧ gI c0 0 7 = nI 39 ∧ gI c0 0 8 = nI 41 ∧ gI c0 0 9 = nI 43 ∧ gI c0 0 11 = nI 44 ∧ gI c0 0 12 = nI 49 ∧ gI c0 0 13 = nI 52 ∧ gI c0 1 0 = nI 2 ∧ gI c0 17 0 = nI 18 ∧ gI c0 17 2 = nI 19 ∧ gI c0 17 3 = nI 20 ∧ gI c0 21 0 = nI 22 ∧ gI c0 21 3 = nI 23 ∧ gI c0 24 0 = nI 25 ∧ gI c0 24 4 = nI 1 ∧ gI c0 24 5 = nI 17 ∧ gI c0 24 6 = nI 26 ∧ gI c0 27 2 = nI 1 ∧ gI c0 27 3 = nI 24 ∧ gI c0 27 4 = nI 28 ∧ gI c0 27 5 = nI 29 ∧ gI c0 27 6 = nI 30 ∧ gI c0 27 7 = nI 31 ∧ gI c0 32 2 = nI 1 ∧ gI c0 32 3 = nI 24 ∧ gI c0 32 4 = nI 33 ∧ gI c0 32 5 = nI 34 ∧ gI c0 32 6 = nI 35 ∧ gI c0 36 4 = nI 1 ∧ gI c0 36 5 = nI 37 ∧ gI c0 36 6 = nI 38 ∧ gI c0 39 0 = nI 40 ∧ gI c0 41 0 = nI 42 ∧ gI c0 44 2 = nI 45 ∧ gI c0 44 3 = nI 46 ∧ gI c0 44 4 = nI 47 ∧ gI c0 44 5 = nI 48 ∧ gI c0 49 0 = nI 50 ∧ gI c0 49 2 = nI 51 := by
  refine ⟨rfl, rfl, rfl, rfl, rfl, rfl, rfl, rfl, rfl, rfl, rfl, rfl, rfl, rfl, rfl, rfl, rfl, rfl, rfl, rfl, rfl, rfl, rfl, rfl, rfl, rfl, rfl, rfl, rfl, rfl, rfl, rfl, rfl, rfl, rfl, rfl, rfl, rfl, rfl, rfl, rfl, rfl, rfl, rfl, rfl⟩
set_option maxRecDepth 100000 in
set_option maxHeartbeats 4000000 in
theorem d0_refs : gI d0 0 2 = nI 1 ∧ gI d0 0 3 = nI 2 ∧ gI d0 0 4 = nI 3 ∧ gI d0 0 5 = nI 4 ∧ gI d0 0 6 = nI 5 ∧ gI d0 0 7 = nI 6 ∧ gI d0 0 9 = nI 7 ∧ gI d0 0 10 = nI 8 ∧ gI d0 0 11 = nI 9 ∧ gI d0 0 12 = nI 10 ∧ gI d0 0 14 = nI 11 ∧ gI d0 0 15 = nI 12 ∧ gI d0 0 16 = nI 13 ∧ gI d0 0 17 = nI 14 ∧ gI d0 0 20 = nI 15 ∧ gI d0 0 21 = nI 16 ∧ gI d0 0 22 = nI 17 ∧ gI d0 0 23 = nI 18 ∧ gI d0 0 24 = nI 19 ∧ gI d0 0 30 = nI 20 ∧ gI d0 0 31 = nI 21 ∧ gI d0 0 32 = nI 22 ∧ gI d0 0 33 = nI 23 ∧ gI d0 0 34 = nI 24 ∧ gI d0 0 35 = nI 25 ∧ gI d0 0 36 = nI 26 ∧ gI d0 0 38 = nI 27 ∧ gI d0 0 39 = nI 28 ∧ gI d0 0 40 = nI 29 ∧ gI d0 0 41 = nI 30 ∧ gI d0 0 42 = nI 31 ∧ gI d0 0 43 = nI 32 ∧ gI d0 0 46 = nI 33 ∧ gI d0 0 47 = nI 34 ∧ gI d0 0 48 = nI 35 ∧ gI d0 0 49 = nI 36 ∧ gI d0 0 51 = nI 37 ∧ gI d0 0 53 = nI 38 ∧ gI d0 0 54 = nI 39 ∧ gI d0 0 55 = nI 40 ∧ gI d0 0 56 = nI 41 ∧ gI d0 0 57 = nI 42 := by
  refine ⟨rfl, rfl, rfl, rfl, rfl, rfl, rfl, rfl, rfl, rfl, rfl, rfl, rfl, rfl, rfl, rfl, rfl, rfl, rfl, rfl, rfl, rfl, rfl, rfl, rfl, rfl, rfl, rfl, rfl, rfl, rfl, rfl, rfl, rfl, rfl, rfl, rfl, rfl, rfl, rfl, rfl, rfl⟩
set_option maxHeartbeats 8000000 in
set_option maxRecDepth 100000 in
theorem ek_ec (X : WX) (H : Heap) (h : va_P X.1 vwCl (wcl EK 65 X c0) H) : va_P X.1 vwCl (wcl EC 65 X c0) H := by
  obtain ⟨e0_0, e0_1, e0_2, e0_3, e0_4, e0_5, e0_6, e0_7, e0_8, e0_9, e0_11, e0_12, e0_13, e1_0, e17_0, e17_2, e17_3, e21_0, e21_3, e24_0, e24_4, e24_5, e24_6, e27_2, e27_3, e27_4, e27_5, e27_6, e27_7, e32_2, e32_3, e32_4, e32_5, e32_6, e36_4, e36_5, e36_6, e39_0, e41_0, e44_2, e44_3, e44_4, e44_5, e49_0, e49_2⟩ := c0_refs
  have same : ∀ k, k < 65 → EK X k (gI c0 k) (gL c0 k) = EC X k (gI c0 k) (gL c0 k) → va_at X.1 vwCl (xq X k, EC X k (gI c0 k) (gL c0 k)) H := fun k hk e => by
    rw [← e]
    exact h k _ (wcl_get hk)
  intro k q hq
  by_cases hk : k < 65
  · rw [wcl_get hk] at hq
    cases hq
    by_cases hr : 3 ≤ k ∧ k < 17
    · exact same k hk (by unfold EK EC; rw [if_pos hr, if_pos hr])
    by_cases hs : 53 ≤ k
    · by_cases ho : k % 2 = 1
      · obtain ⟨i, hi, rfl⟩ : ∃ i, i < 6 ∧ k = 53 + 2 * i := ⟨(k - 53) / 2, by omega, by omega⟩
        refine same _ hk ?_
        rw [EK_sh X hi, EC_sh X hi]
        have e4 : gI c0 (53 + 2 * i) 4 = nI (54 + 2 * i) := by
          rcases (show i = 0 ∨ i = 1 ∨ i = 2 ∨ i = 3 ∨ i = 4 ∨ i = 5 by omega) with rfl | rfl | rfl | rfl | rfl | rfl <;> rfl
        rw [e4, rfN_nI X (by omega) (by omega)]
      · obtain ⟨i, hi, rfl⟩ : ∃ i, i < 6 ∧ k = 54 + 2 * i := ⟨(k - 54) / 2, by omega, by omega⟩
        exact same _ hk (by rw [EK_el X hi, EC_el X hi])
    rcases (show k = 0 ∨ k = 1 ∨ k = 2 ∨ k = 17 ∨ k = 18 ∨ k = 19 ∨ k = 20 ∨ k = 21 ∨ k = 22 ∨ k = 23 ∨ k = 24 ∨ k = 25 ∨ k = 26 ∨ k = 27 ∨ k = 28 ∨ k = 29 ∨ k = 30 ∨ k = 31 ∨ k = 32 ∨ k = 33 ∨ k = 34 ∨ k = 35 ∨ k = 36 ∨ k = 37 ∨ k = 38 ∨ k = 39 ∨ k = 40 ∨ k = 41 ∨ k = 42 ∨ k = 43 ∨ k = 44 ∨ k = 45 ∨ k = 46 ∨ k = 47 ∨ k = 48 ∨ k = 49 ∨ k = 50 ∨ k = 51 ∨ k = 52 by omega) with rfl | rfl | rfl | rfl | rfl | rfl | rfl | rfl | rfl | rfl | rfl | rfl | rfl | rfl | rfl | rfl | rfl | rfl | rfl | rfl | rfl | rfl | rfl | rfl | rfl | rfl | rfl | rfl | rfl | rfl | rfl | rfl | rfl | rfl | rfl | rfl | rfl | rfl | rfl
    · refine same 0 hk ?_
      rw [EK_0, EC_0, e0_0, e0_1, e0_2, e0_3, e0_4, e0_5, e0_6, e0_7, e0_8, e0_9, e0_11, e0_12, e0_13]
      rw [rfN_nI X (k := 1) (by decide) (by decide), rfN_nI X (k := 17) (by decide) (by decide), rfN_nI X (k := 21) (by decide) (by decide), rfN_nI X (k := 24) (by decide) (by decide), rfN_nI X (k := 27) (by decide) (by decide), rfN_nI X (k := 32) (by decide) (by decide), rfN_nI X (k := 36) (by decide) (by decide), rfN_nI X (k := 39) (by decide) (by decide), rfN_nI X (k := 41) (by decide) (by decide), rfN_nI X (k := 43) (by decide) (by decide), rfN_nI X (k := 44) (by decide) (by decide), rfN_nI X (k := 49) (by decide) (by decide), rfN_nI X (k := 52) (by decide) (by decide)]
    · refine same 1 hk ?_
      rw [EK_1, EC_1, e1_0]
      rw [rfN_nI X (k := 2) (by decide) (by decide)]
    · have h9 := h 2 _ (wcl_get (by omega))
      rw [EK_2] at h9
      rw [EC_2]
      refine va_at_q h9 (fun i hi => rfs_at X (k := 3 + i) ?_ (by omega) (by omega))
      rcases (show i = 0 ∨ i = 1 ∨ i = 2 ∨ i = 3 ∨ i = 4 ∨ i = 5 ∨ i = 6 ∨ i = 7 ∨ i = 8 ∨ i = 9 ∨ i = 10 ∨ i = 11 ∨ i = 12 ∨ i = 13 by omega) with rfl | rfl | rfl | rfl | rfl | rfl | rfl | rfl | rfl | rfl | rfl | rfl | rfl | rfl <;> rfl
    · refine same 17 hk ?_
      rw [EK_17, EC_17, e17_0, e17_2, e17_3]
      rw [rfN_nI X (k := 18) (by decide) (by decide), rfN_nI X (k := 19) (by decide) (by decide), rfN_nI X (k := 20) (by decide) (by decide)] <;> rfl
    · exact same 18 hk rfl
    · exact same 19 hk rfl
    · exact same 20 hk rfl
    · refine same 21 hk ?_
      rw [EK_21, EC_21, e21_0, e21_3]
      rw [rfN_nI X (k := 22) (by decide) (by decide), rfN_nI X (k := 23) (by decide) (by decide)] <;> rfl
    · exact same 22 hk rfl
    · exact same 23 hk rfl
    · refine same 24 hk ?_
      rw [EK_24, EC_24, e24_0, e24_4, e24_5, e24_6]
      rw [rfN_nI X (k := 25) (by decide) (by decide), rfN_nI X (k := 1) (by decide) (by decide), rfN_nI X (k := 17) (by decide) (by decide), rfN_nI X (k := 26) (by decide) (by decide)]
    · exact same 25 hk rfl
    · exact same 26 hk rfl
    · refine same 27 hk ?_
      rw [EK_27, EC_27, e27_2, e27_3, e27_4, e27_5, e27_6, e27_7]
      rw [rfN_nI X (k := 1) (by decide) (by decide), rfN_nI X (k := 24) (by decide) (by decide), rfN_nI X (k := 28) (by decide) (by decide), rfN_nI X (k := 29) (by decide) (by decide), rfN_nI X (k := 30) (by decide) (by decide), rfN_nI X (k := 31) (by decide) (by decide)]
    · exact same 28 hk rfl
    · exact same 29 hk rfl
    · exact same 30 hk rfl
    · exact same 31 hk rfl
    · refine same 32 hk ?_
      rw [EK_32, EC_32, e32_2, e32_3, e32_4, e32_5, e32_6]
      rw [rfN_nI X (k := 1) (by decide) (by decide), rfN_nI X (k := 24) (by decide) (by decide), rfN_nI X (k := 33) (by decide) (by decide), rfN_nI X (k := 34) (by decide) (by decide), rfN_nI X (k := 35) (by decide) (by decide)]
    · exact same 33 hk rfl
    · exact same 34 hk rfl
    · exact same 35 hk rfl
    · refine same 36 hk ?_
      rw [EK_36, EC_36, e36_4, e36_5, e36_6]
      rw [rfN_nI X (k := 1) (by decide) (by decide), rfN_nI X (k := 37) (by decide) (by decide), rfN_nI X (k := 38) (by decide) (by decide)]
    · exact same 37 hk rfl
    · exact same 38 hk rfl
    · refine same 39 hk ?_
      rw [EK_39, EC_39, e39_0]
      rw [rfN_nI X (k := 40) (by decide) (by decide)]
    · exact same 40 hk rfl
    · refine same 41 hk ?_
      rw [EK_41, EC_41, e41_0]
      rw [rfN_nI X (k := 42) (by decide) (by decide)]
    · exact same 42 hk rfl
    · exact same 43 hk rfl
    · refine same 44 hk ?_
      rw [EK_44, EC_44, e44_2, e44_3, e44_4, e44_5]
      rw [rfN_nI X (k := 45) (by decide) (by decide), rfN_nI X (k := 46) (by decide) (by decide), rfN_nI X (k := 47) (by decide) (by decide), rfN_nI X (k := 48) (by decide) (by decide)]
    · exact same 45 hk rfl
    · exact same 46 hk rfl
    · exact same 47 hk rfl
    · exact same 48 hk rfl
    · refine same 49 hk ?_
      rw [EK_49, EC_49, e49_0, e49_2]
      rw [rfN_nI X (k := 50) (by decide) (by decide), rfN_nI X (k := 51) (by decide) (by decide)]
    · exact same 50 hk rfl
    · exact same 51 hk rfl
    · have h9 := h 52 _ (wcl_get (by omega))
      rw [EK_52] at h9
      rw [EC_52]
      refine va_at_q h9 (fun i hi => rfs_at X (k := 53 + 2 * i) ?_ (by omega) (by omega))
      rcases (show i = 0 ∨ i = 1 ∨ i = 2 ∨ i = 3 ∨ i = 4 ∨ i = 5 by omega) with rfl | rfl | rfl | rfl | rfl | rfl <;> rfl
  · have h1 : (wcl EC 65 X c0).length = 65 := by simp [wcl]
    rw [List.getElem?_eq_none (by omega)] at hq
    cases hq
set_option maxHeartbeats 8000000 in
set_option maxRecDepth 100000 in
theorem el_em (X : WX) (H : Heap) (h : va_P X.1 vwCl (wcl EL 43 X d0) H) : va_P X.1 vwCl (wcl EM 43 X d0) H := by
  obtain ⟨e2, e3, e4, e5, e6, e7, e9, e10, e11, e12, e14, e15, e16, e17, e20, e21, e22, e23, e24, e30, e31, e32, e33, e34, e35, e36, e38, e39, e40, e41, e42, e43, e46, e47, e48, e49, e51, e53, e54, e55, e56, e57⟩ := d0_refs
  have same : ∀ k, k < 43 → EL X k (gI d0 k) (gL d0 k) = EM X k (gI d0 k) (gL d0 k) → va_at X.1 vwCl (xq X k, EM X k (gI d0 k) (gL d0 k)) H := fun k hk e => by
    rw [← e]
    exact h k _ (wcl_get hk)
  intro k q hq
  by_cases hk : k < 43
  · rw [wcl_get hk] at hq
    cases hq
    rcases (show k = 0 ∨ k = 1 ∨ k = 2 ∨ k = 3 ∨ k = 4 ∨ k = 5 ∨ k = 6 ∨ k = 7 ∨ k = 8 ∨ k = 9 ∨ k = 10 ∨ k = 11 ∨ k = 12 ∨ k = 13 ∨ k = 14 ∨ k = 15 ∨ k = 16 ∨ k = 17 ∨ k = 18 ∨ k = 19 ∨ k = 20 ∨ k = 21 ∨ k = 22 ∨ k = 23 ∨ k = 24 ∨ k = 25 ∨ k = 26 ∨ k = 27 ∨ k = 28 ∨ k = 29 ∨ k = 30 ∨ k = 31 ∨ k = 32 ∨ k = 33 ∨ k = 34 ∨ k = 35 ∨ k = 36 ∨ k = 37 ∨ k = 38 ∨ k = 39 ∨ k = 40 ∨ k = 41 ∨ k = 42 by omega) with rfl | rfl | rfl | rfl | rfl | rfl | rfl | rfl | rfl | rfl | rfl | rfl | rfl | rfl | rfl | rfl | rfl | rfl | rfl | rfl | rfl | rfl | rfl | rfl | rfl | rfl | rfl | rfl | rfl | rfl | rfl | rfl | rfl | rfl | rfl | rfl | rfl | rfl | rfl | rfl | rfl | rfl | rfl
    · refine same 0 hk ?_
      rw [EL_0, EM_0, e2, e3, e4, e5, e6, e7, e9, e10, e11, e12, e14, e15, e16, e17, e20, e21, e22, e23, e24, e30, e31, e32, e33, e34, e35, e36, e38, e39, e40, e41, e42, e43, e46, e47, e48, e49, e51, e53, e54, e55, e56, e57]
      rw [rfN_nI X (k := 1) (by decide) (by decide), rfN_nI X (k := 2) (by decide) (by decide), rfN_nI X (k := 3) (by decide) (by decide), rfN_nI X (k := 4) (by decide) (by decide), rfN_nI X (k := 5) (by decide) (by decide), rfN_nI X (k := 6) (by decide) (by decide), rfN_nI X (k := 7) (by decide) (by decide), rfN_nI X (k := 8) (by decide) (by decide), rfN_nI X (k := 9) (by decide) (by decide), rfN_nI X (k := 10) (by decide) (by decide), rfN_nI X (k := 11) (by decide) (by decide), rfN_nI X (k := 12) (by decide) (by decide), rfN_nI X (k := 13) (by decide) (by decide), rfN_nI X (k := 14) (by decide) (by decide), rfN_nI X (k := 15) (by decide) (by decide), rfN_nI X (k := 16) (by decide) (by decide), rfN_nI X (k := 17) (by decide) (by decide), rfN_nI X (k := 18) (by decide) (by decide), rfN_nI X (k := 19) (by decide) (by decide), rfN_nI X (k := 20) (by decide) (by decide), rfN_nI X (k := 21) (by decide) (by decide), rfN_nI X (k := 22) (by decide) (by decide), rfN_nI X (k := 23) (by decide) (by decide), rfN_nI X (k := 24) (by decide) (by decide), rfN_nI X (k := 25) (by decide) (by decide), rfN_nI X (k := 26) (by decide) (by decide), rfN_nI X (k := 27) (by decide) (by decide), rfN_nI X (k := 28) (by decide) (by decide), rfN_nI X (k := 29) (by decide) (by decide), rfN_nI X (k := 30) (by decide) (by decide), rfN_nI X (k := 31) (by decide) (by decide), rfN_nI X (k := 32) (by decide) (by decide), rfN_nI X (k := 33) (by decide) (by decide), rfN_nI X (k := 34) (by decide) (by decide), rfN_nI X (k := 35) (by decide) (by decide), rfN_nI X (k := 36) (by decide) (by decide), rfN_nI X (k := 37) (by decide) (by decide), rfN_nI X (k := 38) (by decide) (by decide), rfN_nI X (k := 39) (by decide) (by decide), rfN_nI X (k := 40) (by decide) (by decide), rfN_nI X (k := 41) (by decide) (by decide), rfN_nI X (k := 42) (by decide) (by decide)]
    · exact same 1 hk rfl
    · exact same 2 hk rfl
    · exact same 3 hk rfl
    · exact same 4 hk rfl
    · exact same 5 hk rfl
    · exact same 6 hk rfl
    · exact same 7 hk rfl
    · exact same 8 hk rfl
    · exact same 9 hk rfl
    · exact same 10 hk rfl
    · exact same 11 hk rfl
    · exact same 12 hk rfl
    · exact same 13 hk rfl
    · exact same 14 hk rfl
    · exact same 15 hk rfl
    · exact same 16 hk rfl
    · exact same 17 hk rfl
    · exact same 18 hk rfl
    · exact same 19 hk rfl
    · exact same 20 hk rfl
    · exact same 21 hk rfl
    · exact same 22 hk rfl
    · exact same 23 hk rfl
    · exact same 24 hk rfl
    · exact same 25 hk rfl
    · exact same 26 hk rfl
    · exact same 27 hk rfl
    · exact same 28 hk rfl
    · exact same 29 hk rfl
    · exact same 30 hk rfl
    · exact same 31 hk rfl
    · exact same 32 hk rfl
    · exact same 33 hk rfl
    · exact same 34 hk rfl
    · exact same 35 hk rfl
    · exact same 36 hk rfl
    · exact same 37 hk rfl
    · exact same 38 hk rfl
    · exact same 39 hk rfl
    · exact same 40 hk rfl
    · exact same 41 hk rfl
    · exact same 42 hk rfl
  · have h1 : (wcl EM 43 X d0).length = 43 := by simp [wcl]
    rw [List.getElem?_eq_none (by omega)] at hq
    cases hq
theorem tab_of {args : Array Value} {s : State} {C n : String} {tab : List Int32} {A : Nat → Prop} (hs : ∀ c ∈ flatC (Jvm.Cond.and given_1 narrow_1), c.before args s = true) (hlen : tab.length < 1000) (h1 : Cond.arrayOf (.static C n "[I") .int ∈ flatC (Jvm.Cond.and given_1 narrow_1)) (h2 : Cond.eq (.length (.static C n "[I")) (.int (Int32.ofNat tab.length)) ∈ flatC (Jvm.Cond.and given_1 narrow_1)) (h3 : ∀ j, j < tab.length → Cond.eq (.elem (.static C n "[I") (.int (Int32.ofNat j))) (.int (tb tab j)) ∈ flatC (Jvm.Cond.and given_1 narrow_1)) (hst : (Cond.laysStatic C n "[I").before args s = true) (hini : (Cond.initialized C).before args s = true) (hA : ∀ a : Nat, a < s.heap.size → ¬ A a) : ∃ t : Nat, va_Z C n "[I" (.ref t) A s s.heap ∧ va_T .int t tab.length (fun j => .int (tb tab j)) A s s.heap := by
  obtain ⟨t, ht, hT⟩ := va_Tof (tm := .static C n "[I") (ty := .int) (N := tab.length) (f := fun j => .int (tb tab j)) (A := A) (by omega) (hs _ h1) (va_eqt (hs _ h2)) (fun j hj => va_eqt (hs _ (h3 j hj))) hA
  exact ⟨t, va_Zof hst hini ht hA, hT⟩
set_option maxHeartbeats 16000000 in
set_option maxRecDepth 100000 in
theorem whole_of {Rel : St → St → Prop} {n : Nat} (hSt : Steps2 Rel n) (hR0 : Rel c0 d0) {p : Program} {e : Env} {s : State} {m : MethodId} {below : List Frame} {meth : Method} {c : Code} (l : Launch) {b L : Nat} {xs : Nat → Int32} (hL : L ≤ 3072) (C0 : lw_At p s m meth c b L xs) : W p l e room_1 s m #[Value.ref b] below meth c s.heap [] 0 0 (lw_Z below #[Value.ref b] s) (entryFrame m ([Value.ref b] : List Value).toArray 4) := by
  obtain ⟨hx, hb, hr, hml, hown, hts0, hX, hbl, hlocks, hgv⟩ := id C0
  have hts : ∀ w ∈ wsA, w.before #[Value.ref b] s = true := fun w h => hts0 w (List.mem_filter.mp h).1
  have hfl := flat_of_before _ hgv
  obtain ⟨k0, iS0, hKn0⟩ := u_known (C := RX0) (T := TX0) (N := 4) (n := 4) hts inA0 (hts _ kq_X0)
  obtain ⟨k1, iS1, hKn1⟩ := u_known (C := RX1) (T := TX1) (N := 6) (n := 6) hts inA1 (hts _ kq_X1)
  obtain ⟨k2, iS2, hKn2⟩ := u_known (C := RX2) (T := TX2) (N := 5) (n := 5) hts inA2 (hts _ kq_X2)
  obtain ⟨k3, iS3, hKn3⟩ := u_known (C := RX3) (T := TX3) (N := 4) (n := 4) hts inA3 (hts _ kq_X3)
  obtain ⟨k4, iS4, hKn4⟩ := u_known (C := RX4) (T := TX4) (N := 4) (n := 4) hts inA4 (hts _ kq_X4)
  obtain ⟨k5, iS5, hKn5⟩ := u_known (C := RX5) (T := TX5) (N := 5) (n := 5) hts inA5 (hts _ kq_X5)
  obtain ⟨k6, iS6, hKn6⟩ := u_known (C := RX6) (T := TX6) (N := 7) (n := 7) hts inA6 (hts _ kq_X6)
  obtain ⟨k7, iS7, hKn7⟩ := u_known (C := RX7) (T := TX7) (N := 5) (n := 5) hts inA7 (hts _ kq_X7)
  obtain ⟨k8, iS8, hKn8⟩ := u_known (C := RX8) (T := TX8) (N := 7) (n := 7) hts inA8 (hts _ kq_X8)
  obtain ⟨k9, iS9, hKn9⟩ := u_known (C := RX9) (T := TX9) (N := 8) (n := 8) hts inA9 (hts _ kq_X9)
  obtain ⟨k10, iS10, hKn10⟩ := u_known (C := RX10) (T := TX10) (N := 7) (n := 7) hts inA10 (hts _ kq_X10)
  obtain ⟨k11, iS11, hKn11⟩ := u_known (C := RX11) (T := TX11) (N := 14) (n := 14) hts inA11 (hts _ kq_X11)
  obtain ⟨k12, iS12, hKn12⟩ := u_known (C := RX12) (T := TX12) (N := 58) (n := 58) hts inA12 (hts _ kq_X12)
  obtain ⟨dC, dI, hKc⟩ : ∃ (dC : Nat → ClassId) (dI : Nat → Nat → Nat), ∀ (k : Nat) (q : vw_C), vwCl[k]? = some q → u_Kn s q.1 q.2.1 q.2.2 (dC k) (dI k) := by
    refine ⟨fun k => if k = 0 then k0 else if k = 1 then k1 else if k = 2 then k2 else if k = 3 then k3 else if k = 4 then k4 else if k = 5 then k5 else if k = 6 then k6 else if k = 7 then k7 else if k = 8 then k8 else if k = 9 then k9 else if k = 10 then k10 else if k = 11 then k11 else k12, fun k => if k = 0 then iS0 else if k = 1 then iS1 else if k = 2 then iS2 else if k = 3 then iS3 else if k = 4 then iS4 else if k = 5 then iS5 else if k = 6 then iS6 else if k = 7 then iS7 else if k = 8 then iS8 else if k = 9 then iS9 else if k = 10 then iS10 else if k = 11 then iS11 else iS12, ?_⟩
    intro k q hq
    match k, hq with
    | 0, hq => cases hq; exact hKn0
    | 1, hq => cases hq; exact hKn1
    | 2, hq => cases hq; exact hKn2
    | 3, hq => cases hq; exact hKn3
    | 4, hq => cases hq; exact hKn4
    | 5, hq => cases hq; exact hKn5
    | 6, hq => cases hq; exact hKn6
    | 7, hq => cases hq; exact hKn7
    | 8, hq => cases hq; exact hKn8
    | 9, hq => cases hq; exact hKn9
    | 10, hq => cases hq; exact hKn10
    | 11, hq => cases hq; exact hKn11
    | 12, hq => cases hq; exact hKn12
    | k + 13, hq => simp [vwCl] at hq
  obtain ⟨a0, ka0, co0, fa0, fb0, fc0⟩ := Cond.arrayClass_spec (hts _ ka_byte)
  obtain ⟨a1, ka1, co1, fa1, fb1, fc1⟩ := Cond.arrayClass_spec (hts _ ka_int)
  obtain ⟨a2, ka2, co2, fa2, fb2, fc2⟩ := Cond.arrayClass_spec (hts _ ka_long)
  obtain ⟨a3, ka3, co3, fa3, fb3, fc3⟩ := Cond.arrayClass_spec (hts _ ka_short)
  obtain ⟨a4, ka4, co4, fa4, fb4, fc4⟩ := Cond.arrayClass_spec (hts _ ka_boolean)
  have hAO : va_AO RX7 s := va_AO.of (hts0 (.arrayOver (.object RX7)) (List.mem_append_right _ (List.mem_of_getElem? (i := 313) (by decide +kernel))))
  have hAOA : va_AOA .int s := va_AOA.of (hts0 (.arrayOver (.array .int)) (List.mem_append_right _ (List.mem_of_getElem? (i := 33) (by decide +kernel))))
  obtain ⟨co5, a5, ka5, fa5, -, fb5, fc5, fd5⟩ := Cond.arrayOver_spec hAO
  obtain ⟨co6, a6, ka6, fa6, fb6, fc6, fd6⟩ := Cond.arrayOver_specA hAOA
  obtain ⟨cy, hcy⟩ : ∃ cy : Nat → ClassId, cy 0 = a0 ∧ cy 1 = a1 ∧ cy 2 = a2 ∧ cy 3 = a3 ∧ cy 4 = a4 ∧ cy 5 = a5 ∧ cy 6 = a6 := ⟨fun k => if k = 0 then a0 else if k = 1 then a1 else if k = 2 then a2 else if k = 3 then a3 else if k = 4 then a4 else if k = 5 then a5 else a6, rfl, rfl, rfl, rfl, rfl, rfl, rfl⟩
  obtain ⟨y0, y1, y2, y3, y4, y5, y6⟩ := hcy
  have hNo : ∀ (f : Nat → Nat), (∀ k, s.heap.size ≤ f k) → ∀ (K : Nat) (a : Nat), a < s.heap.size → ¬ (∃ k, k < K ∧ f k = a) := fun f hf K a ha h => by
    obtain ⟨k, -, hk⟩ := h
    have := hf k
    omega
  obtain ⟨t0, zz0, tt0⟩ := tab_of (C := RX3) (n := "LEAST") (tab := tLEAST) (A := fun q : Nat => s.heap.size ≤ q) hfl (by decide) (by decide +kernel) (by decide +kernel) (by decide +kernel) (hts0 (.laysStatic RX3 "LEAST" "[I") (List.mem_append_right _ (List.mem_of_getElem? (i := 461) (by decide +kernel)))) (hts _ kz_X3) (fun a h => by show ¬ (Array.size s.heap ≤ a); omega)
  obtain ⟨t1, zz1, tt1⟩ := tab_of (C := RX3) (n := "MOST") (tab := tMOST) (A := fun q : Nat => s.heap.size ≤ q) hfl (by decide) (by decide +kernel) (by decide +kernel) (by decide +kernel) (hts0 (.laysStatic RX3 "MOST" "[I") (List.mem_append_right _ (List.mem_of_getElem? (i := 463) (by decide +kernel)))) (hts _ kz_X3) (fun a h => by show ¬ (Array.size s.heap ≤ a); omega)
  obtain ⟨t2, zz2, tt2⟩ := tab_of (C := RX0) (n := "ABOVE") (tab := tABOVE) (A := fun q : Nat => s.heap.size ≤ q) hfl (by decide) (by decide +kernel) (by decide +kernel) (by decide +kernel) (hts0 (.laysStatic RX0 "ABOVE" "[I") (List.mem_append_right _ (List.mem_of_getElem? (i := 957) (by decide +kernel)))) (hts _ kz_X0) (fun a h => by show ¬ (Array.size s.heap ≤ a); omega)
  obtain ⟨t3, zz3, tt3⟩ := tab_of (C := RX0) (n := "OWN") (tab := tOWN) (A := fun q : Nat => s.heap.size ≤ q) hfl (by decide) (by decide +kernel) (by decide +kernel) (by decide +kernel) (hts0 (.laysStatic RX0 "OWN" "[I") (List.mem_append_right _ (List.mem_of_getElem? (i := 946) (by decide +kernel)))) (hts _ kz_X0) (fun a h => by show ¬ (Array.size s.heap ≤ a); omega)
  obtain ⟨tt, hq0, hq1, hq2, hq3⟩ : ∃ tt : Nat → Nat, tt 0 = t0 ∧ tt 1 = t1 ∧ tt 2 = t2 ∧ tt 3 = t3 := ⟨fun k => if k = 0 then t0 else if k = 1 then t1 else if k = 2 then t2 else t3, rfl, rfl, rfl, rfl⟩
  obtain ⟨X1, hX1⟩ : ∃ X : WX, X = ((dC, dI), cy, (fun k => s.heap.size + k), tt) := ⟨_, rfl⟩
  obtain ⟨X2, hX2⟩ : ∃ X : WX, X = ((dC, dI), cy, (fun k => s.heap.size + 65 + k), tt) := ⟨_, rfl⟩
  have hqa : ∀ k, xq X1 k = s.heap.size + k := fun k => by rw [hX1]; rfl
  have hqb : ∀ k, xq X2 k = s.heap.size + 65 + k := fun k => by rw [hX2]; rfl
  have hKx : ∀ X : WX, X.1 = (dC, dI) → X.2.1 = cy → va_K X.1 vwCl (xty X) s := fun X e1 e2 => by
    rw [e1]
    refine ⟨hKc, fun k q hk => ?_⟩
    have ex : ∀ j, xc X j = cy j := fun j => by unfold xc; rw [e2]
    match k, hk with
    | 0, hk => cases hk; rw [ex, y0]; exact ⟨fun n z => ⟨fun k h => (by cases h), ka0, fb0, co0, fc0⟩, fa0⟩
    | 1, hk => cases hk; rw [ex, y1]; exact ⟨fun n z => ⟨fun k h => (by cases h), ka1, fb1, co1, fc1⟩, fa1⟩
    | 2, hk => cases hk; rw [ex, y2]; exact ⟨fun n z => ⟨fun k h => (by cases h), ka2, fb2, co2, fc2⟩, fa2⟩
    | 3, hk => cases hk; rw [ex, y3]; exact ⟨fun n z => ⟨fun k h => (by cases h), ka3, fb3, co3, fc3⟩, fa3⟩
    | 4, hk => cases hk; rw [ex, y4]; exact ⟨fun n z => ⟨fun k h => (by cases h), ka4, fb4, co4, fc4⟩, fa4⟩
    | 5, hk => cases hk; rw [ex, y5]; exact ⟨fun n z => ⟨fun k h => (by cases h), ka5, fb5, co5, fc5⟩, ka5, co5, fb5, fc5, fa5, fd5⟩
    | 6, hk => cases hk; rw [ex, y6]; exact ⟨fun n z => ⟨fun k h => (by cases h), ka6, fb6, co6, fc6⟩, fd6⟩
    | k + 7, hk => simp [xty] at hk
  have hK1 : va_K X1.1 vwCl (xty X1) s := hKx X1 (by rw [hX1]) (by rw [hX1])
  have hK2 : va_K X2.1 vwCl (xty X2) s := hKx X2 (by rw [hX2]) (by rw [hX2])
  have hNW : NW s := ⟨va_Nw.of rfl (hts0 (.methodLinkNest RX11 9 yX3_init RX11) (List.mem_append_right _ (List.mem_of_getElem? (i := 28) (by decide +kernel)))), va_Nw.of rfl (hts0 (.methodLinkNest RX11 18 yX4_init RX11) (List.mem_append_right _ (List.mem_of_getElem? (i := 61) (by decide +kernel)))), va_Nw.of rfl (hts0 (.methodLinkNest RX11 25 yX5_init RX11) (List.mem_append_right _ (List.mem_of_getElem? (i := 82) (by decide +kernel)))), va_Nw.of rfl (hts0 (.methodLinkNest RX11 66 yX2_init RX11) (List.mem_append_right _ (List.mem_of_getElem? (i := 237) (by decide +kernel)))), va_Nw.of rfl (hts0 (.methodLinkNest RX11 84 yX1_init RX11) (List.mem_append_right _ (List.mem_of_getElem? (i := 264) (by decide +kernel)))), va_Nw.of rfl (hts0 (.methodLinkNest RX11 91 yX0_init RX11) (List.mem_append_right _ (List.mem_of_getElem? (i := 291) (by decide +kernel)))), va_Nw.of rfl (hts0 (.methodLinkNest RX11 102 yX7_init RX11) (List.mem_append_right _ (List.mem_of_getElem? (i := 315) (by decide +kernel)))), hAO, hAOA⟩
  have hZx : ∀ (X : WX) (A : Nat → Prop), X.2.2.2 = tt → (∀ a, A a → s.heap.size ≤ a) → ZC X A s s.heap := fun X A e2 hA => by
    have ex : ∀ j, xt X j = tt j := fun j => by unfold xt; rw [e2]
    refine ⟨⟨va_Nw.of rfl (hts0 (.methodLinkNest RX7 34 yX11_isWithin RX11) (List.mem_append_right _ (List.mem_of_getElem? (i := 994) (by decide +kernel)))), va_Nw.of rfl (hts0 (.methodLinkNest RX8 61 yX11_isWithin RX11) (List.mem_append_right _ (List.mem_of_getElem? (i := 802) (by decide +kernel)))), va_Nw.of rfl (hts0 (.methodLinkNest RX8 65 yX11_isSide RX11) (List.mem_append_right _ (List.mem_of_getElem? (i := 803) (by decide +kernel))))⟩, ?_, ?_, ?_, ?_⟩
    · exact ⟨by rw [ex, hq0]; exact zz0.narrow hA, by rw [ex, hq0]; exact tt0.narrow hA⟩
    · exact ⟨by rw [ex, hq1]; exact zz1.narrow hA, by rw [ex, hq1]; exact tt1.narrow hA⟩
    · exact ⟨by rw [ex, hq2]; exact zz2.narrow hA, by rw [ex, hq2]; exact tt2.narrow hA⟩
    · exact ⟨by rw [ex, hq3]; exact zz3.narrow hA, by rw [ex, hq3]; exact tt3.narrow hA⟩
  have hold1 : ∀ a, Aw 65 X1 a → s.heap.size ≤ a := fun a h => by
    obtain ⟨k, -, hk⟩ := h
    rw [hqa] at hk
    omega
  have hold2 : ∀ a, Aw 43 X2 a → s.heap.size ≤ a := fun a h => by
    obtain ⟨k, -, hk⟩ := h
    rw [hqb] at hk
    omega
  have hDof : ∀ (E : EF) (N : Nat) (X : WX) (B : Nat) (st : St), (∀ k, xq X k = B + k) → va_D (Aw N X) (wcl E N X st) := fun E N X B st hq => by
    refine ⟨(wn_D (E := E) (N := N) (st := st) hq).1, fun k q hk => ?_⟩
    by_cases hkN : k < N
    · rw [wcl_get hkN] at hk
      cases hk
      exact ⟨k, hkN, rfl⟩
    · have h1 : (wcl E N X st).length = N := by simp [wcl]
      rw [List.getElem?_eq_none (by omega)] at hk
      cases hk
  have hL2 : L2 X1 X2 s := ⟨fun c => hDof EC 65 X1 _ c hqa, fun d => hDof EM 43 X2 _ d hqb, fun a h1 h2 => by
    obtain ⟨k, hk, e1⟩ := h1
    obtain ⟨k', hk', e2⟩ := h2
    rw [hqa] at e1
    rw [hqb] at e2
    omega, hold1, hold2, ⟨hK1, hK2⟩, hZx X1 _ (by rw [hX1]) hold1, hZx X2 _ (by rw [hX2]) hold2⟩
  have hF : CallFix p m c cL_law 4 s #[Value.ref b] wsA RL := ⟨hx, hb, hml, hown, hts⟩
  have hA : LA X1 X2 p s m meth c b L xs := ⟨hF, hL2, hX, hbl, hL, hr, hlocks⟩
  have hl := lv_entry ([.ref b]) (n := 4) (Nat.le_of_ble_eq_true rfl)
  rw [lg_entry_eq]
  generalize (lg_sl ([.ref b]) ++ List.replicate (4 - (lg_sl ([.ref b])).length) Slot.unset).toArray = ls at hl ⊢
  have hl : lv_has ls 4 [(0, .ref b)] := hl
  have hS0 : va_S (fun q : Nat => s.heap.size ≤ q) s.heap s.heap [] := va_S.rf
  refine l_make (E := EK) (N := 65) (X := X1) (st := z0) (st' := c0) (ty := tyX11) (mc := 64) (ms := 1992) hF hK1 hNW hS0 (fun q h => h) hqa tyX11_ok inA11 rfl kl_L_7 kq_X11 kz_X11 (EK_0 X1 _ _) (fun j9 h9 => by rcases (show j9 = 0 ∨ j9 = 1 ∨ j9 = 2 ∨ j9 = 3 ∨ j9 = 4 ∨ j9 = 5 ∨ j9 = 6 ∨ j9 = 7 ∨ j9 = 8 ∨ j9 = 9 ∨ j9 = 10 ∨ j9 = 11 ∨ j9 = 12 ∨ j9 = 13 by omega) with rfl | rfl | rfl | rfl | rfl | rfl | rfl | rfl | rfl | rfl | rfl | rfl | rfl | rfl <;> rfl) (mX11_init l X1 _ (sZ z0 0) _ _ rfl rfl) km_L_9 ki_yX11_init kz_X11 kc_X11_init rfl ok_yX11_init ⟨Nat.le_of_ble_eq_true rfl, Nat.le_of_ble_eq_true rfl⟩ rfl rfl hl.1 (Nat.le_of_ble_eq_true rfl) dL_law_0 dL_law_3 dL_law_4 (Nat.le_of_ble_eq_true rfl) (Nat.le_of_ble_eq_true rfl) (Nat.le_of_ble_eq_true rfl) (Nat.le_of_ble_eq_true rfl) (fun H2 locs2 hP1 hz1 ho1 hS1 => ?_)
  refine lv_astore_n (lv' := [(1, .ref (xq X1 0)), (0, .ref b)]) hx hb dL_law_7 rfl hl (by decide) rfl (fun ls hl => ?_)
  refine l_make (E := EL) (N := 43) (X := X2) (st := z0) (st' := d0) (ty := tyX12) (mc := 42) (ms := 2006) hF hK2 hNW hS1 (fun q h => by show s.heap.size ≤ q; omega) (fun k => by rw [hqb, hz1]) tyX12_ok inA12 rfl kl_L_10 kq_X12 kz_X12 (EL_0 X2 _ _) (fun j9 h9 => by rcases (show j9 = 0 ∨ j9 = 1 ∨ j9 = 2 ∨ j9 = 3 ∨ j9 = 4 ∨ j9 = 5 ∨ j9 = 6 ∨ j9 = 7 ∨ j9 = 8 ∨ j9 = 9 ∨ j9 = 10 ∨ j9 = 11 ∨ j9 = 12 ∨ j9 = 13 ∨ j9 = 14 ∨ j9 = 15 ∨ j9 = 16 ∨ j9 = 17 ∨ j9 = 18 ∨ j9 = 19 ∨ j9 = 20 ∨ j9 = 21 ∨ j9 = 22 ∨ j9 = 23 ∨ j9 = 24 ∨ j9 = 25 ∨ j9 = 26 ∨ j9 = 27 ∨ j9 = 28 ∨ j9 = 29 ∨ j9 = 30 ∨ j9 = 31 ∨ j9 = 32 ∨ j9 = 33 ∨ j9 = 34 ∨ j9 = 35 ∨ j9 = 36 ∨ j9 = 37 ∨ j9 = 38 ∨ j9 = 39 ∨ j9 = 40 ∨ j9 = 41 ∨ j9 = 42 ∨ j9 = 43 ∨ j9 = 44 ∨ j9 = 45 ∨ j9 = 46 ∨ j9 = 47 ∨ j9 = 48 ∨ j9 = 49 ∨ j9 = 50 ∨ j9 = 51 ∨ j9 = 52 ∨ j9 = 53 ∨ j9 = 54 ∨ j9 = 55 ∨ j9 = 56 ∨ j9 = 57 by omega) with rfl | rfl | rfl | rfl | rfl | rfl | rfl | rfl | rfl | rfl | rfl | rfl | rfl | rfl | rfl | rfl | rfl | rfl | rfl | rfl | rfl | rfl | rfl | rfl | rfl | rfl | rfl | rfl | rfl | rfl | rfl | rfl | rfl | rfl | rfl | rfl | rfl | rfl | rfl | rfl | rfl | rfl | rfl | rfl | rfl | rfl | rfl | rfl | rfl | rfl | rfl | rfl | rfl | rfl | rfl | rfl | rfl | rfl <;> rfl) (mX12_init l X2 _ (sZ z0 0) _ rfl) km_L_12 ki_yX12_init kz_X12 kc_X12_init rfl ok_yX12_init ⟨Nat.le_of_ble_eq_true rfl, Nat.le_of_ble_eq_true rfl⟩ rfl rfl hl.1 (Nat.le_of_ble_eq_true rfl) dL_law_8 dL_law_11 dL_law_12 (Nat.le_of_ble_eq_true rfl) (Nat.le_of_ble_eq_true rfl) (Nat.le_of_ble_eq_true rfl) (Nat.le_of_ble_eq_true rfl) (fun H3 locs3 hP2 hz2 ho2 hS2 => ?_)
  refine lv_astore_n (lv' := [(2, .ref (xq X2 0)), (1, .ref (xq X1 0)), (0, .ref b)]) hx hb dL_law_15 rfl hl (by decide) rfl (fun ls hl => ?_)
  refine lv_iconst (v := 0) hx hb dL_law_16 (by decide) ?_
  refine lv_istore_n (lv' := [(3, .int 0), (2, .ref (xq X2 0)), (1, .ref (xq X1 0)), (0, .ref b)]) hx hb dL_law_17 rfl hl (by decide) rfl (fun ls hl => ?_)
  have hP1' : va_P X1.1 vwCl (wcl EK 65 X1 c0) H3 := hP1.kept (fun k x hx => ho2 x.1 ((hP1 k x hx).lt))
  exact law_loop hA ⟨Nat.le_of_ble_eq_true rfl, Nat.le_of_ble_eq_true rfl⟩ hSt (L + 1) 0 c0 d0 _ _ _ (by omega) (by omega) hR0 ⟨ek_ec X1 _ hP1', el_em X2 _ hP2, hS2⟩ (lv_sub hl [3, 2, 1, 0] rfl)
