/-! nights by draws -/
theorem us_nat (x s : Int32) (k : Nat) (hs : ((s.toUInt32 &&& Int32.toUInt32 31).toBitVec % 32).toNat = k) (hk : 2 ^ 32 ≤ 2 ^ k * 2 ^ 31) : ∃ a : Nat, a < 2 ^ 31 ∧ usI x s = nI a := by
  have ex : x = nI x.toBitVec.toNat := by
    apply Int32.toBitVec_inj.1
    show x.toBitVec = BitVec.ofNat 32 x.toBitVec.toNat
    rw [BitVec.ofNat_toNat, BitVec.setWidth_eq]
  have hl : x.toBitVec.toNat < 2 ^ 32 := x.toBitVec.isLt
  generalize x.toBitVec.toNat = m at ex hl
  subst ex
  unfold usI
  rw [pk_ushrN hl s k hs]
  exact ⟨m / 2 ^ k, Nat.div_lt_of_lt_mul (Nat.lt_of_lt_of_le hl hk), rfl⟩
theorem us_rm (x s : Int32) (k d : Nat) (hs : ((s.toUInt32 &&& Int32.toUInt32 31).toBitVec % 32).toNat = k) (hk : 2 ^ 32 ≤ 2 ^ k * 2 ^ 31) (h0 : 0 < d) (hd : d < 1000) : ∃ a : Nat, a < d ∧ rmI (usI x s) (nI d) = nI a := by
  obtain ⟨a, ha, e⟩ := us_nat x s k hs hk
  rw [e]
  exact ⟨a % d, Nat.mod_lt _ h0, pk_rem ha h0 (by omega)⟩
/-- scratch and the places behind falls and cries, of the reference -/
def QX (nl nc : Nat) (d d' : St) : Prop := (∀ k i, ¬ (25 ≤ k ∧ k ≤ 29) → ¬ (7 ≤ k ∧ k ≤ 10 ∧ i = nl) → ¬ (11 ≤ k ∧ k ≤ 14 ∧ i = nc) → gI d' k i = gI d k i) ∧ ∀ k, gL d' k = gL d k
theorem QX_q {nl nc : Nat} {d d' : St} (h : Qd d d') : QX nl nc d d' := ⟨fun k i p _ _ => by rw [h.1 k p], h.2⟩
theorem QX_tr {nl nc : Nat} {a b c : St} (h1 : QX nl nc a b) (h2 : QX nl nc b c) : QX nl nc a c := ⟨fun k i p q r => (h2.1 k i p q r).trans (h1.1 k i p q r), fun k => (h2.2 k).trans (h1.2 k)⟩
theorem QX_sI {nl nc k i : Nat} (h : (7 ≤ k ∧ k ≤ 10 ∧ i = nl) ∨ (11 ≤ k ∧ k ≤ 14 ∧ i = nc)) (d : St) (v : Int32) : QX nl nc d (sI d k i v) := ⟨fun a b _ q r => by rw [gIp, if_neg (by omega)], fun _ => rfl⟩
theorem Rel_X {c c' d d' : St} {nl nc : Nat} (h : Rel c d) (h1 : gI d 0 8 = nI nl) (h2 : gI d 0 13 = nI nc) (hl : nl ≤ 10) (hn : nc ≤ 12) (hc : QC c c') (hd : QX nl nc d d') : Rel c' d' := by
  obtain ⟨hL, hC, hD, hI, hB, hS, hT, hW⟩ := h
  have ac : ∀ f : Nat → Nat → Prop, (∀ k i, f k i → ¬ (k = 19 ∨ k = 20 ∨ (24 ≤ k ∧ k ≤ 38)) ∧ ¬ (13 ≤ k ∧ k ≤ 16 ∧ i = 12) ∧ ¬ (9 ≤ k ∧ k ≤ 12 ∧ i = 10)) → alk f c c' := fun f q k i z => hc.1 k i (q k i z).1 (q k i z).2.1 (q k i z).2.2
  have ad : ∀ f : Nat → Nat → Prop, (∀ k i, f k i → ¬ (25 ≤ k ∧ k ≤ 29) ∧ ¬ (7 ≤ k ∧ k ≤ 14)) → alk f d d' := fun f q k i z => hd.1 k i (q k i z).1 (fun w => (q k i z).2 (by omega)) (fun w => (q k i z).2 (by omega))
  have hm : cle c c' := fun i a b => by rw [hc.1 1 i (by omega) (by omega) (by omega)]; exact i32_rf _
  have hb : gI c 49 1 ≤ gI c' 49 1 := by rw [hc.1 49 1 (by omega) (by omega) (by omega)]; exact i32_rf _
  refine ⟨?_, RC_fr hC hm (ac _ (fun k i z => by unfold fCc at z; omega)) (ad _ (fun k i z => by unfold fCd at z; omega)), RD_fr hD hm (ac _ (fun k i z => by unfold fDc at z; omega)) (ad _ (fun k i z => by unfold fDd at z; omega)), RI_fr hI hm (ac _ (fun k i z => by unfold fIc at z; omega)) (ad _ (fun k i z => by unfold fId at z; omega)), RB_fr hB (ac _ (fun k i z => by unfold fBc at z; omega)) (ad _ (fun k i z => by unfold fBd at z; omega)), RS_fr hS hb (ac _ (fun k i z => by unfold fSc at z; omega)) (ad _ (fun k i z => by unfold fSd at z; omega)) (fun k _ _ => hc.2 k) (hd.2 41), RT_fr hT (ac _ (fun k i z => by unfold fTc at z; omega)) (ad _ (fun k i z => by unfold fTd at z; omega)), RW_fr hW (ac _ (fun k i z => by unfold fWc at z; omega)) (ad _ (fun k i z => by unfold fWd at z; omega))⟩
  obtain ⟨⟨nf, f1, f2, f3⟩, ⟨nl', l1, l2, l3⟩, ⟨nc', c1, c2, c3⟩, hv⟩ := hL
  have el : nl' = nl := nI_inj (by omega) (by omega) (l3.symm.trans h1)
  have en : nc' = nc := nI_inj (by omega) (by omega) (c3.symm.trans h2)
  subst el
  subst en
  have e1 : ∀ i, gI c' 1 i = gI c 1 i := fun i => hc.1 1 i (by omega) (by omega) (by omega)
  have e0 : ∀ i, gI d' 0 i = gI d 0 i := fun i => hd.1 0 i (by omega) (by omega) (by omega)
  refine ⟨⟨nf, f1, by rw [e1, f2], by rw [e0, f3]⟩, ⟨nl', l1, by rw [e1, l2], by rw [e0, l3]⟩, ⟨nc', c1, by rw [e1, c2], by rw [e0, c3]⟩, fun w j hw hj hlt => ?_⟩
  rw [e1] at hlt
  have hp : (w < 6 ∧ j < nf) ∨ (6 ≤ w ∧ w < 10 ∧ j < nl') ∨ (10 ≤ w ∧ j < nc') := by
    unfold cs at hlt
    by_cases h6 : w < 6
    · rw [if_pos h6, f2, nIlt (by omega) (by omega)] at hlt
      exact Or.inl ⟨h6, hlt⟩
    · rw [if_neg h6] at hlt
      by_cases h10 : w < 10
      · rw [if_pos h10, l2, nIlt (by omega) (by omega)] at hlt
        exact Or.inr (Or.inl ⟨by omega, h10, hlt⟩)
      · rw [if_neg h10, c2, nIlt (by omega) (by omega)] at hlt
        exact Or.inr (Or.inr ⟨by omega, hlt⟩)
  rw [hc.1 (3 + w) j (by omega) (by omega) (by omega), hd.1 (1 + w) j (by omega) (by omega) (by omega)]
  exact hv w j hw hj hlt
theorem c_placeF {c : St} {nf nl nc : Nat} {V : Nat → Nat → Int32} {P : LwP} (hv : VC c nf nl nc V P) {x y : Nat} (hx : x < 20) (hy : y < 20) (m wh : Int32) : ∃ c', fX3_placeFall c 10 (20 * nI y + nI x) m wh = some c' ∧ VC c' nf nl nc (modV (modV (modV (modV V 6 10 (nI x)) 7 10 (nI y)) 8 10 m) 9 10 wh) P ∧ QC c c' ∧ (∀ q, 17 ≤ q → gI c' q = gI c q) := by
  unfold fX3_placeFall
  rw [show inB 10 13 = true by decide, show (10 : Int32).toNatClampNeg = 10 from rfl, show (20 : Int32) * nI y + nI x = nI (20 * y + x) by rw [show (20 : Int32) = nI 20 from rfl, pk_mul, nI_add], show rmI (nI (20 * y + x)) 20 = nI ((20 * y + x) % 20) from rm_nI (d := 20) (by omega) (by omega) (by omega), show nI (20 * y + x) / 20 = nI ((20 * y + x) / 20) from dv_nI (d := 20) (by omega) (by omega) (by omega), show (20 * y + x) % 20 = x by omega, show (20 * y + x) / 20 = y by omega]
  simp only [gd_true, bnd_x]
  refine ⟨_, rfl, mod_VC (mod_VC (mod_VC (mod_VC hv (w := 6) (by omega)) (w := 7) (by omega)) (w := 8) (by omega)) (w := 9) (by omega), QC_tr (QC_tr (QC_tr (QC_sI _ 9 10 _ (by omega)) (QC_sI _ 10 10 _ (by omega))) (QC_sI _ 11 10 _ (by omega))) (QC_sI _ 12 10 _ (by omega)), fun q hq => ?_⟩
  rw [gI_sIx, if_neg (by omega), gI_sIx, if_neg (by omega), gI_sIx, if_neg (by omega), gI_sIx, if_neg (by omega)]
set_option maxHeartbeats 4000000 in
theorem draw_l {n : Nat} (hn : 5000 < n) {nf nl nc N : Nat} {V : Nat → Nat → Int32} {P : LwP} (hb : VB nf nl nc V) (hN : N ≤ 600) {a2 a3 a4 : Int32} (hA : a2 / 100 * rmI a2 100 = nI N) : ∀ (r i k : Nat) (c d : St) (z : Int32) (had : Nat) (D : Nat → Nat) (sm : Int32) (W : Nat → Nat → Int32), i + r = N → r < k → VC c nf nl nc W P → VB nf nl nc W → (∀ a, a < 6 ∨ 10 ≤ a → W a = V a) → VD d nf nl nc V P → (∀ k, k < 36 → gI c 25 k = nI (D k)) → ∃ c' d' had' D' sm', fX6_draw_16 n k c (nI N) (nI had) z (nI i) = some (nI had', c') ∧ fX12_drawn_66 n k d a2 a3 a4 z (nI had) sm (nI i) = some (if a3 = 0 then nI had' else sm', d') ∧ (∀ k, k < 36 → gI c' 25 k = nI (D' k)) ∧ (∀ w, w < 6 → a4 = nI w → sm = nI (sR D w 6 0) → sm' = nI (sR D' w 6 0)) ∧ QC c c' ∧ QX nl nc d d' := by
  have h10 := hb.2.1
  have h12 := hb.2.2.1
  intro r
  induction r with
  | zero =>
    intro i k c d z had D sm W hi hk hc hbW hW hd hD
    obtain ⟨k, rfl⟩ : ∃ k', k = k' + 1 := ⟨k - 1, by omega⟩
    rw [fX6_draw_16, fX12_drawn_66, hA, if_pos (nI_le (by omega) (by omega)), if_pos (nI_le (by omega) (by omega))]
    refine ⟨c, d, had, D, sm, rfl, ?_, hD, fun w _ _ e => e, QC_q (Qc_rf c), QX_q (Qd_rf d)⟩
    by_cases q : a3 = 0
    · rw [if_pos q, if_pos q]
    · rw [if_neg q, if_neg q]
  | succ r ih =>
    intro i k c d z had D sm W hi hk hc hbW hW hd hD
    obtain ⟨k, rfl⟩ : ∃ k', k = k' + 1 := ⟨k - 1, by omega⟩
    rw [fX6_draw_16, fX12_drawn_66, hA, if_neg (nI_ge (by omega) (by omega)), if_neg (nI_ge (by omega) (by omega))]
    simp only [bnd_x]
    generalize z * 1103515245 + 12345 = z'
    obtain ⟨x, hx, ex⟩ := us_rm z' 8 8 20 (by decide) (by decide) (by omega) (by omega)
    obtain ⟨y, hy, ey⟩ := us_rm z' 14 14 20 (by decide) (by decide) (by omega) (by omega)
    obtain ⟨m, hm, em⟩ := us_rm z' 19 19 60 (by decide) (by decide) (by omega) (by omega)
    obtain ⟨wh, hwh, ewh⟩ := us_rm z' 27 27 4 (by decide) (by decide) (by omega) (by omega)
    rw [show rmI (usI z' 8) 20 = nI x from ex, show rmI (usI z' 14) 20 = nI y from ey, show rmI (usI z' 19) 60 = nI m from em, show rmI (usI z' 27) 4 = nI wh from ewh]
    obtain ⟨c1, p1, p2, p3, p4⟩ := c_placeF hc hx hy (nI m) (nI wh)
    generalize hW' : modV (modV (modV (modV W 6 10 (nI x)) 7 10 (nI y)) 8 10 (nI m)) 9 10 (nI wh) = W' at p2
    have hbW' : VB nf nl nc W' := by
      rw [← hW']
      exact mod_VB (mod_VB (mod_VB (mod_VB hbW ⟨nI_pos' (by omega), nI_le (b := 19) (by omega) (by omega)⟩) ⟨nI_pos' (by omega), nI_le (b := 19) (by omega) (by omega)⟩) ⟨nI_pos' (by omega), nI_le (b := 999) (by omega) (by omega)⟩) ⟨nI_pos' (by omega), nI_le (b := 3) (by omega) (by omega)⟩
    have hWW : ∀ a, a < 6 ∨ 10 ≤ a → W' a = V a := fun a ha => by
      rw [← hW', mod_f (by omega), mod_f (by omega), mod_f (by omega), mod_f (by omega)]
      exact hW a ha
    have w6 : W' 6 10 = nI x := by rw [← hW', mod_n (by omega), mod_n (by omega), mod_n (by omega), mod_y]
    have w7 : W' 7 10 = nI y := by rw [← hW', mod_n (by omega), mod_n (by omega), mod_y]
    have w8 : W' 8 10 = nI m := by rw [← hW', mod_n (by omega), mod_y]
    have w9 : W' 9 10 = nI wh := by rw [← hW', mod_y]
    obtain ⟨c2, s1, s2, s3, s4⟩ := c_settle1 hn p2 hbW' (f := 10) (by omega) hx hy w6 w7 w8 (by omega)
    have eo : ownV W' nf x y = ownV V nf x y := own_c (fun a ha => hWW a (Or.inl ha)) nf x y
    have ga : ∀ o a b, gA P W' o a b = gA P V o a b := fun o a b => by
      unfold gA
      rw [hWW 10 (by omega), hWW 11 (by omega), hWW 12 (by omega), hWW 13 (by omega)]
    rw [eo, w8, w9, ga] at s4
    have s2' : ∀ k, k < 36 → gI c2 25 k = nI (D k + oweN P V nc (ownV V nf x y) (nI m) (nI wh) k) := fun k hk => by
      rw [s2 k hk, eo, w8, w9, owe_V (fun a ha => hWW a (Or.inr ha)), p4 25 (by omega), hD k hk, nI_add]
    rw [p1, Option.bind_some, show (10 : Int32) = nI 10 from rfl, s1, Option.bind_some, s4]
    have hc2 := VC_Q p2 (Qs_q s3)
    have qc : QC c c2 := QC_tr p3 (QC_q (Qs_q s3))
    rw [c_fieldAt hn hc2 hbW' hx hy, Option.bind_some, c_owner hc2 hbW', Option.bind_some, eo]
    have ed : gI d 0 8 = nI nl := hd.2.1
    simp only [gI_sIx, Nat.reduceEqDiff, reduceIte, ed, inB_t (show nl < 11 by omega) (by omega), gd_true, nIc (show nl < 100000 by omega), nI_1]
    generalize hd1 : sI (sI (sI (sI d 7 nl (nI x)) 8 nl (nI y)) 9 nl (nI m)) 10 nl (nI wh) = d1
    have qx1 : QX nl nc d d1 := by
      rw [← hd1]
      exact QX_tr (QX_tr (QX_tr (QX_sI (by omega) _ _) (QX_sI (by omega) _ _)) (QX_sI (by omega) _ _)) (QX_sI (by omega) _ _)
    have hs : ∀ q, ¬ (7 ≤ q ∧ q ≤ 10) → gI d1 q = gI d q := fun q hq => by
      rw [← hd1, gI_sIx, if_neg (by omega), gI_sIx, if_neg (by omega), gI_sIx, if_neg (by omega), gI_sIx, if_neg (by omega)]
    have hv1 : VD d1 nf nl nc V P := by
      refine VD_fr hd (hs 0 (by omega)) (hs 20 (by omega)) (hs 21 (by omega)) (hs 22 (by omega)) (hs 23 (by omega)) (hs 24 (by omega)) (fun a j ha hj => ?_)
      have hj' : (6 ≤ a ∧ a < 10) → j < nl := fun q => by
        unfold ct at hj
        rw [if_neg (by omega), if_pos (by omega)] at hj
        exact hj
      rw [← hd1, gIp, if_neg (by omega), gIp, if_neg (by omega), gIp, if_neg (by omega), gIp, if_neg (by omega)]
      exact hd.2.2.2.1 a j ha hj
    have hF : FD d1 nl x y (nI m) (nI wh) := by
      rw [← hd1]
      refine ⟨by omega, hx, hy, ?_, ?_, ?_, ?_⟩
      · rw [gIp, if_neg (by omega), gIp, if_neg (by omega), gIp, if_neg (by omega), gIp, if_pos ⟨rfl, rfl⟩]
      · rw [gIp, if_neg (by omega), gIp, if_neg (by omega), gIp, if_pos ⟨rfl, rfl⟩]
      · rw [gIp, if_neg (by omega), gIp, if_pos ⟨rfl, rfl⟩]
      · rw [gIp, if_pos ⟨rfl, rfl⟩]
    rw [d_finder hn hv1 hb hF.1 hx hy hF.2.2.2.1 hF.2.2.2.2.1, Option.bind_some]
    have hmn := mn_le (gA P V (ownV V nf x y) (nI m) (nI wh)) nc
    have add : ∀ w, w < 6 → sR (fun k => D k + oweN P V nc (ownV V nf x y) (nI m) (nI wh) k) w 6 0 = sR D w 6 0 + (if ownV V nf x y = nI w then sumN P V nc (ownV V nf x y) (nI m) (nI wh) else 0) := fun w hw => by
      rw [sR_add (A := D) (B := oweN P V nc (ownV V nf x y) (nI m) (nI wh)) (fun k => rfl), sR_owe hb (ownV_rng hb x y) hw]
    have go : ∀ (dd : St) (had1 : Nat) (sm1 : Int32), VD dd nf nl nc V P → QX nl nc d dd → (∀ w, w < 6 → a4 = nI w → sm = nI (sR D w 6 0) → sm1 = nI (sR D w 6 0 + (if ownV V nf x y = nI w then sumN P V nc (ownV V nf x y) (nI m) (nI wh) else 0))) → ∃ c' d' had' D' sm', fX6_draw_16 n k c2 (nI N) (nI had1) z' (nI (i + 1)) = some (nI had', c') ∧ fX12_drawn_66 n k dd a2 a3 a4 z' (nI had1) sm1 (nI (i + 1)) = some (if a3 = 0 then nI had' else sm', d') ∧ (∀ k, k < 36 → gI c' 25 k = nI (D' k)) ∧ (∀ w, w < 6 → a4 = nI w → sm = nI (sR D w 6 0) → sm' = nI (sR D' w 6 0)) ∧ QC c c' ∧ QX nl nc d d' := by
      intro dd had1 sm1 q1 q2 q3
      obtain ⟨c', d', had', D', sm', u1, u2, u3, u4, u5, u6⟩ := ih (i + 1) k c2 dd z' had1 (fun k => D k + oweN P V nc (ownV V nf x y) (nI m) (nI wh) k) sm1 W' (by omega) (by omega) hc2 hbW' hWW q1 s2'
      exact ⟨c', d', had', D', sm', u1, u2, u3, fun w hw e1 e2 => u4 w hw e1 (by rw [add w hw]; exact q3 w hw e1 e2), QC_tr qc u5, QX_tr q2 u6⟩
    rcases ownV_rng hb x y with ho | ⟨p, hp, ho⟩
    · have e : (if nI (mn (gA P V (ownV V nf x y) (nI m) (nI wh)) nc) ≤ 0 then fX6_draw_16 n k c2 (nI N) (nI had) z' (nI (i + 1)) else if ownV V nf x y < 0 then fX6_draw_16 n k c2 (nI N) (nI had) z' (nI (i + 1)) else fX6_draw_16 n k c2 (nI N) (nI (had + 1)) z' (nI (i + 1))) = fX6_draw_16 n k c2 (nI N) (nI had) z' (nI (i + 1)) := by
        rw [if_pos (show ownV V nf x y < 0 by rw [ho]; exact neg1_lt), ite_self]
      rw [e, if_pos (show fnd (ownV V nf x y) < 0 by rw [ho]; decide)]
      exact go d1 had sm hv1 qx1 (fun w hw e1 e2 => by rw [if_neg (by rw [ho]; exact fun e => neg1_nI (by omega) e.symm), Nat.add_zero]; exact e2)
    · have hnl : ¬ ownV V nf x y < 0 := by rw [ho]; exact nI_pos (by omega)
      have efn : fnd (ownV V nf x y) = nI p := by
        unfold fnd
        rw [if_pos (fa_nlt hnl), ho]
      obtain ⟨d2, t1, t2⟩ := d_haveIt hn hv1 hb hF
      obtain ⟨b1, b2⟩ := bt_12 (gA P V (ownV V nf x y) (nI m) (nI wh)) h12
      have hbt := bt_0 (gA P V (ownV V nf x y) (nI m) (nI wh)) nc
      rw [efn, if_neg (nI_pos (n := p) (by omega)), t1, Option.bind_some, if_neg hnl]
      by_cases q : mn (gA P V (ownV V nf x y) (nI m) (nI wh)) nc = 0
      · rw [q, if_pos (show nI 0 ≤ 0 from i32_rf _), hbt.mpr q, if_pos (show nI 0 = 0 from rfl)]
        refine go d2 had sm (VD_Q hv1 (Q2d_q t2)) (QX_tr qx1 (QX_q (Q2d_q t2))) (fun w hw e1 e2 => ?_)
        have : sumN P V nc (ownV V nf x y) (nI m) (nI wh) = 0 := by
          unfold sumN
          rw [if_neg hnl, q, Nat.div_zero, Nat.zero_mul]
        rw [this, ite_self, Nat.add_zero]
        exact e2
      · have hb0 : ¬ bt (gA P V (ownV V nf x y) (nI m) (nI wh)) nc = 0 := fun e => q (hbt.mp e)
        have hv2 := VD_Q hv1 (Q2d_q t2)
        have hF2 := FD_Q hF (Q2d_q t2)
        obtain ⟨d3, o1, -, o3⟩ := d_oweBy hn hv2 hb hF2
        rw [if_neg (show ¬ nI (mn (gA P V (ownV V nf x y) (nI m) (nI wh)) nc) ≤ 0 from nI_ge (a := 0) (by omega) (by omega)), if_neg (nI_ne0 (by omega) (by omega)), hv2.2.1, o1, Option.bind_some]
        have qx3 : QX nl nc d d3 := QX_tr qx1 (QX_tr (QX_q (Q2d_q t2)) (QX_q (Qo_q o3)))
        by_cases q2 : nI p = a4
        · rw [if_pos q2]
          refine go d3 (had + 1) _ (VD_Q hv2 (Qo_q o3)) qx3 (fun w hw e1 e2 => ?_)
          rw [if_pos (by rw [ho, q2, e1]), e2, nI_add]
        · rw [if_neg q2]
          refine go d3 (had + 1) _ (VD_Q hv2 (Qo_q o3)) qx3 (fun w hw e1 e2 => ?_)
          rw [if_neg (fun e => q2 (by rw [← ho, e, e1])), Nat.add_zero]
          exact e2
set_option maxHeartbeats 1000000 in
theorem s_drawn {n : Nat} (hn : 5000 < n) : S_drawn Rel n := by
  intro c d a1 a2 a3 a4 h
  obtain ⟨nf, nl, nc, P, hc, hd, hb⟩ := views h
  generalize hV : (fun w j => gI c (3 + w) j) = V at hc hd hb
  have h10 := hb.2.1
  have h12 := hb.2.2.1
  unfold fX11_drawn fX12_drawn fX11_drawn_34 fX11_drawn_35 fX11_isPerson fX12_isPerson
  rw [isW, isW, isW, isW, isI, isI, isI, isI]
  simp only [if_bI, reduceIte]
  by_cases h0 : a2 < 0
  · rw [if_pos h0, if_pos h0]
    exact ⟨_, c, d, rfl, rfl, h⟩
  rw [if_neg h0, if_neg h0, if_neg (show ¬ (1 : Int32) = 0 by decide)]
  by_cases h1 : 1 ≤ a2 / 100 ∧ a2 / 100 ≤ 30
  · rw [decide_eq_true h1]
    by_cases h2 : 1 ≤ rmI a2 100 ∧ rmI a2 100 ≤ 20
    · rw [decide_eq_true h2]
      by_cases h3 : 0 ≤ a3 ∧ a3 ≤ 1
      · rw [decide_eq_true h3]
        simp only [cond_true]
        obtain ⟨u, hu, eu⟩ := (in_nat (n := 30) rfl (by omega)).mp ⟨i32_lele (by decide) h1.1, h1.2⟩
        obtain ⟨v, hv, ev⟩ := (in_nat (n := 20) rfl (by omega)).mp ⟨i32_lele (by decide) h2.1, h2.2⟩
        have huv : u * v ≤ 600 := Nat.mul_le_mul hu hv
        have hA : a2 / 100 * rmI a2 100 = nI (u * v) := by rw [eu, ev, nI_mul']
        have hq0 : Qs 25 c (sIs c 25 (flI (gI c 25) 36 0)) := ⟨fun k _ _ _ q => by rw [gI_sIsx, if_neg q], fun _ => rfl⟩
        obtain ⟨c', d', had', D', sm', u1, u2, u3, u4, u5, u6⟩ := draw_l hn (a3 := a3) (a4 := a4) hb huv hA (u * v) 0 n (sIs c 25 (flI (gI c 25) 36 0)) d a1 0 (fun _ => 0) (nI 0) V (by omega) (by omega) (VC_Q hc (Qs_q hq0)) hb (fun _ _ => rfl) hd (fun k hk => by
          rw [gI_sIsx, if_pos rfl]
          show (if k < 36 then 0 else gI c 25 k) = nI 0
          rw [if_pos hk]
          rfl)
        have u1' : fX6_draw_16 n n (sIs c 25 (flI (gI c 25) 36 0)) (nI (u * v)) 0 a1 0 = _ := u1
        have u2' : fX12_drawn_66 n n d a2 a3 a4 a1 0 0 0 = _ := u2
        have rel : Rel c' d' := Rel_X h hd.2.1 hd.2.2.1 h10 h12 (QC_tr (QC_q (Qs_q hq0)) u5) u6
        unfold fX11_drawn_66 fX12_drawn_54 fX6_draw
        rw [hA, bnd_x, u1', u2', Option.bind_some]
        by_cases z : a3 = 1
        · rw [if_pos z, if_pos z, if_neg (show ¬ a3 = 0 by rw [z]; decide), if_neg (show ¬ a3 = 0 by rw [z]; decide)]
          by_cases h4 : 0 ≤ a4 ∧ a4 ≤ 5
          · rw [decide_eq_true h4]
            simp only [cond_true]
            obtain ⟨w, hw, ew⟩ := (in_nat (n := 5) rfl (by omega)).mp h4
            have es := u4 w (by omega) ew (by rw [sR_z (fun q => rfl) 6 0])
            rw [es, ew, c_owes hn u3 (by omega), Option.bind_some]
            exact ⟨_, c', d', rfl, rfl, rel⟩
          · rw [decide_eq_false h4]
            exact ⟨_, c, d, rfl, rfl, h⟩
        · have z0 : a3 = 0 := by
            obtain ⟨j, hj, e⟩ := (in_nat (n := 1) rfl (by omega)).mp h3
            have : j ≠ 1 := fun q => z (by rw [e, q]; rfl)
            rw [e, show j = 0 by omega]
            rfl
          rw [if_neg z, if_neg z, if_pos z0, if_pos z0]
          exact ⟨_, c', d', rfl, rfl, rel⟩
      · rw [decide_eq_false h3]
        exact ⟨_, c, d, rfl, rfl, h⟩
    · rw [decide_eq_false h2]
      exact ⟨_, c, d, rfl, rfl, h⟩
  · rw [decide_eq_false h1]
    exact ⟨_, c, d, rfl, rfl, h⟩
