set_option maxHeartbeats 4000000 in
theorem law_ears {p : Program} {l : Launch} {e : Env} {s : State} {m : MethodId} {below : List Frame} {meth : Method} {c : Code} {H : Heap} {locs : List Loc} {cells slots : Nat} {Q : State → Prop} {ls : Array Slot} {X1 X2 : WX} {u v : St} {b L i n : Nat} {xs : Nat → Int32} {Rel : St → St → Prop} (A : LA X1 X2 p s m meth c b L xs) (hw : W2 X1 X2 s u v H locs) (hl : lv_has ls 4 [(0, .ref b), (1, .ref (xq X1 0)), (2, .ref (xq X2 0)), (3, .int (nI i))]) (hi : i + 6 ≤ L) (hf : cells ≤ room_1.cells ∧ slots ≤ room_1.slots) (B : S_ears Rel n) (hR : Rel u v) (kk : ∀ (u' v' : St) (H : Heap) (locs : List Loc), Rel u' v' → W2 X1 X2 s u' v' H locs → W p l e room_1 s m #[Value.ref b] below meth c H locs cells slots Q (F0 m 1560 ls [])) : W p l e room_1 s m #[Value.ref b] below meth c H locs cells slots Q (F0 m 853 ls []) := by
  obtain ⟨hx, hb, hml, hown, hts⟩ := id A.1
  refine lv_aload_n hx hb dL_law_853 rfl (lv_at hl 1 rfl) ?_
  refine lv_aload_n hx hb dL_law_854 rfl (lv_at hl 0 rfl) ?_
  refine lv_iload_n hx hb dL_law_855 rfl (lv_at hl 3 rfl) ?_
  refine lv_iconst (v := 1) hx hb dL_law_856 (by decide) ?_
  refine lv_iadd hx hb dL_law_857 ?_
  refine l_ld A hw (l_in (j := 1) hi A.2.2.2.2.1 (by decide) rfl) dL_law_858 ?_
  refine lv_aload_n hx hb dL_law_859 rfl (lv_at hl 0 rfl) ?_
  refine lv_iload_n hx hb dL_law_860 rfl (lv_at hl 3 rfl) ?_
  refine lv_iconst (v := 2) hx hb dL_law_861 (by decide) ?_
  refine lv_iadd hx hb dL_law_862 ?_
  refine l_ld A hw (l_in (j := 2) hi A.2.2.2.2.1 (by decide) rfl) dL_law_863 ?_
  obtain ⟨r, u', v', h1, h2, hR'⟩ := B u v (xs (nI i + 1).toNatClampNeg) (xs (nI i + 2).toNatClampNeg) hR
  refine l_callCI (rest := []) A hw (zX11_ears l _ n u (xs (nI i + 1).toNatClampNeg) (xs (nI i + 2).toNatClampNeg) (r, u') h1) km_L_101 ki_yX11_ears kv_X11_ears kz_X11 kc_X11_ears rfl ok_yX11_ears ⟨Nat.le_of_ble_eq_true rfl, Nat.le_of_ble_eq_true rfl⟩ rfl rfl rfl rfl hl.1 (Nat.le_of_ble_eq_true rfl) dL_law_864 hf (fun H locs hw => ?_)
  refine lv_aload_n hx hb dL_law_867 rfl (lv_at hl 2 rfl) ?_
  refine lv_aload_n hx hb dL_law_868 rfl (lv_at hl 0 rfl) ?_
  refine lv_iload_n hx hb dL_law_869 rfl (lv_at hl 3 rfl) ?_
  refine lv_iconst (v := 1) hx hb dL_law_870 (by decide) ?_
  refine lv_iadd hx hb dL_law_871 ?_
  refine l_ld A hw (l_in (j := 1) hi A.2.2.2.2.1 (by decide) rfl) dL_law_872 ?_
  refine lv_aload_n hx hb dL_law_873 rfl (lv_at hl 0 rfl) ?_
  refine lv_iload_n hx hb dL_law_874 rfl (lv_at hl 3 rfl) ?_
  refine lv_iconst (v := 2) hx hb dL_law_875 (by decide) ?_
  refine lv_iadd hx hb dL_law_876 ?_
  refine l_ld A hw (l_in (j := 2) hi A.2.2.2.2.1 (by decide) rfl) dL_law_877 ?_
  obtain ⟨h2, h2e⟩ := h2
  rw [h2e] at hR'
  refine l_callMI (rest := [.int (r)]) A hw (zX12_ears l _ n v (xs (nI i + 1).toNatClampNeg) (xs (nI i + 2).toNatClampNeg) r h2) km_L_104 ki_yX12_ears kv_X12_ears kz_X12 kc_X12_ears rfl ok_yX12_ears ⟨Nat.le_of_ble_eq_true rfl, Nat.le_of_ble_eq_true rfl⟩ rfl rfl rfl rfl hl.1 (Nat.le_of_ble_eq_true rfl) dL_law_878 hf (fun H locs hw => ?_)
  refine lv_icmp_eq (tgt := 1560) hx hb dL_law_881 (by decide) (fun c1 => kk _ _ _ _ hR' hw) (fun c1 => absurd rfl c1)
set_option maxHeartbeats 4000000 in
theorem law_judge {p : Program} {l : Launch} {e : Env} {s : State} {m : MethodId} {below : List Frame} {meth : Method} {c : Code} {H : Heap} {locs : List Loc} {cells slots : Nat} {Q : State → Prop} {ls : Array Slot} {X1 X2 : WX} {u v : St} {b L i n : Nat} {xs : Nat → Int32} {Rel : St → St → Prop} (A : LA X1 X2 p s m meth c b L xs) (hw : W2 X1 X2 s u v H locs) (hl : lv_has ls 4 [(0, .ref b), (1, .ref (xq X1 0)), (2, .ref (xq X2 0)), (3, .int (nI i))]) (hi : i + 6 ≤ L) (hf : cells ≤ room_1.cells ∧ slots ≤ room_1.slots) (B : S_judge Rel n) (hR : Rel u v) (kk : ∀ (u' v' : St) (H : Heap) (locs : List Loc), Rel u' v' → W2 X1 X2 s u' v' H locs → W p l e room_1 s m #[Value.ref b] below meth c H locs cells slots Q (F0 m 1560 ls [])) : W p l e room_1 s m #[Value.ref b] below meth c H locs cells slots Q (F0 m 886 ls []) := by
  obtain ⟨hx, hb, hml, hown, hts⟩ := id A.1
  refine lv_aload_n hx hb dL_law_886 rfl (lv_at hl 1 rfl) ?_
  refine lv_aload_n hx hb dL_law_887 rfl (lv_at hl 0 rfl) ?_
  refine lv_iload_n hx hb dL_law_888 rfl (lv_at hl 3 rfl) ?_
  refine lv_iconst (v := 1) hx hb dL_law_889 (by decide) ?_
  refine lv_iadd hx hb dL_law_890 ?_
  refine l_ld A hw (l_in (j := 1) hi A.2.2.2.2.1 (by decide) rfl) dL_law_891 ?_
  obtain ⟨r, u', v', h1, h2, hR'⟩ := B u v (xs (nI i + 1).toNatClampNeg) hR
  refine l_callCI (rest := []) A hw (zX11_judge l _ n u (xs (nI i + 1).toNatClampNeg) (r, u') h1) km_L_105 ki_yX11_judge kv_X11_judge kz_X11 kc_X11_judge rfl ok_yX11_judge ⟨Nat.le_of_ble_eq_true rfl, Nat.le_of_ble_eq_true rfl⟩ rfl rfl rfl rfl hl.1 (Nat.le_of_ble_eq_true rfl) dL_law_892 hf (fun H locs hw => ?_)
  refine lv_aload_n hx hb dL_law_895 rfl (lv_at hl 2 rfl) ?_
  refine lv_aload_n hx hb dL_law_896 rfl (lv_at hl 0 rfl) ?_
  refine lv_iload_n hx hb dL_law_897 rfl (lv_at hl 3 rfl) ?_
  refine lv_iconst (v := 1) hx hb dL_law_898 (by decide) ?_
  refine lv_iadd hx hb dL_law_899 ?_
  refine l_ld A hw (l_in (j := 1) hi A.2.2.2.2.1 (by decide) rfl) dL_law_900 ?_
  refine l_callMI (rest := [.int (r)]) A hw (zX12_judge l _ n v (xs (nI i + 1).toNatClampNeg) (r, v') h2) km_L_108 ki_yX12_judge kv_X12_judge kz_X12 kc_X12_judge rfl ok_yX12_judge ⟨Nat.le_of_ble_eq_true rfl, Nat.le_of_ble_eq_true rfl⟩ rfl rfl rfl rfl hl.1 (Nat.le_of_ble_eq_true rfl) dL_law_901 hf (fun H locs hw => ?_)
  refine lv_icmp_eq (tgt := 1560) hx hb dL_law_904 (by decide) (fun c1 => kk _ _ _ _ hR' hw) (fun c1 => absurd rfl c1)
set_option maxHeartbeats 4000000 in
theorem law_whoseCry {p : Program} {l : Launch} {e : Env} {s : State} {m : MethodId} {below : List Frame} {meth : Method} {c : Code} {H : Heap} {locs : List Loc} {cells slots : Nat} {Q : State → Prop} {ls : Array Slot} {X1 X2 : WX} {u v : St} {b L i n : Nat} {xs : Nat → Int32} {Rel : St → St → Prop} (A : LA X1 X2 p s m meth c b L xs) (hw : W2 X1 X2 s u v H locs) (hl : lv_has ls 4 [(0, .ref b), (1, .ref (xq X1 0)), (2, .ref (xq X2 0)), (3, .int (nI i))]) (hi : i + 6 ≤ L) (hf : cells ≤ room_1.cells ∧ slots ≤ room_1.slots) (B : S_whoseCry Rel n) (hR : Rel u v) (kk : ∀ (u' v' : St) (H : Heap) (locs : List Loc), Rel u' v' → W2 X1 X2 s u' v' H locs → W p l e room_1 s m #[Value.ref b] below meth c H locs cells slots Q (F0 m 1560 ls [])) : W p l e room_1 s m #[Value.ref b] below meth c H locs cells slots Q (F0 m 909 ls []) := by
  obtain ⟨hx, hb, hml, hown, hts⟩ := id A.1
  refine lv_aload_n hx hb dL_law_909 rfl (lv_at hl 1 rfl) ?_
  refine lv_aload_n hx hb dL_law_910 rfl (lv_at hl 0 rfl) ?_
  refine lv_iload_n hx hb dL_law_911 rfl (lv_at hl 3 rfl) ?_
  refine lv_iconst (v := 1) hx hb dL_law_912 (by decide) ?_
  refine lv_iadd hx hb dL_law_913 ?_
  refine l_ld A hw (l_in (j := 1) hi A.2.2.2.2.1 (by decide) rfl) dL_law_914 ?_
  refine lv_aload_n hx hb dL_law_915 rfl (lv_at hl 0 rfl) ?_
  refine lv_iload_n hx hb dL_law_916 rfl (lv_at hl 3 rfl) ?_
  refine lv_iconst (v := 2) hx hb dL_law_917 (by decide) ?_
  refine lv_iadd hx hb dL_law_918 ?_
  refine l_ld A hw (l_in (j := 2) hi A.2.2.2.2.1 (by decide) rfl) dL_law_919 ?_
  refine lv_aload_n hx hb dL_law_920 rfl (lv_at hl 0 rfl) ?_
  refine lv_iload_n hx hb dL_law_921 rfl (lv_at hl 3 rfl) ?_
  refine lv_iconst (v := 3) hx hb dL_law_922 (by decide) ?_
  refine lv_iadd hx hb dL_law_923 ?_
  refine l_ld A hw (l_in (j := 3) hi A.2.2.2.2.1 (by decide) rfl) dL_law_924 ?_
  obtain ⟨r, u', v', h1, h2, hR'⟩ := B u v (xs (nI i + 1).toNatClampNeg) (xs (nI i + 2).toNatClampNeg) (xs (nI i + 3).toNatClampNeg) hR
  refine l_callCI (rest := []) A hw (zX11_whoseCry l _ n u (xs (nI i + 1).toNatClampNeg) (xs (nI i + 2).toNatClampNeg) (xs (nI i + 3).toNatClampNeg) (r, u') h1) km_L_109 ki_yX11_whoseCry kv_X11_whoseCry kz_X11 kc_X11_whoseCry rfl ok_yX11_whoseCry ⟨Nat.le_of_ble_eq_true rfl, Nat.le_of_ble_eq_true rfl⟩ rfl rfl rfl rfl hl.1 (Nat.le_of_ble_eq_true rfl) dL_law_925 hf (fun H locs hw => ?_)
  refine lv_aload_n hx hb dL_law_928 rfl (lv_at hl 2 rfl) ?_
  refine lv_aload_n hx hb dL_law_929 rfl (lv_at hl 0 rfl) ?_
  refine lv_iload_n hx hb dL_law_930 rfl (lv_at hl 3 rfl) ?_
  refine lv_iconst (v := 1) hx hb dL_law_931 (by decide) ?_
  refine lv_iadd hx hb dL_law_932 ?_
  refine l_ld A hw (l_in (j := 1) hi A.2.2.2.2.1 (by decide) rfl) dL_law_933 ?_
  refine lv_aload_n hx hb dL_law_934 rfl (lv_at hl 0 rfl) ?_
  refine lv_iload_n hx hb dL_law_935 rfl (lv_at hl 3 rfl) ?_
  refine lv_iconst (v := 2) hx hb dL_law_936 (by decide) ?_
  refine lv_iadd hx hb dL_law_937 ?_
  refine l_ld A hw (l_in (j := 2) hi A.2.2.2.2.1 (by decide) rfl) dL_law_938 ?_
  refine lv_aload_n hx hb dL_law_939 rfl (lv_at hl 0 rfl) ?_
  refine lv_iload_n hx hb dL_law_940 rfl (lv_at hl 3 rfl) ?_
  refine lv_iconst (v := 3) hx hb dL_law_941 (by decide) ?_
  refine lv_iadd hx hb dL_law_942 ?_
  refine l_ld A hw (l_in (j := 3) hi A.2.2.2.2.1 (by decide) rfl) dL_law_943 ?_
  refine l_callMI (rest := [.int (r)]) A hw (zX12_whoseCry l _ n v (xs (nI i + 1).toNatClampNeg) (xs (nI i + 2).toNatClampNeg) (xs (nI i + 3).toNatClampNeg) (r, v') h2) km_L_112 ki_yX12_whoseCry kv_X12_whoseCry kz_X12 kc_X12_whoseCry rfl ok_yX12_whoseCry ⟨Nat.le_of_ble_eq_true rfl, Nat.le_of_ble_eq_true rfl⟩ rfl rfl rfl rfl hl.1 (Nat.le_of_ble_eq_true rfl) dL_law_944 hf (fun H locs hw => ?_)
  refine lv_icmp_eq (tgt := 1560) hx hb dL_law_947 (by decide) (fun c1 => kk _ _ _ _ hR' hw) (fun c1 => absurd rfl c1)
set_option maxHeartbeats 4000000 in
theorem law_drawn {p : Program} {l : Launch} {e : Env} {s : State} {m : MethodId} {below : List Frame} {meth : Method} {c : Code} {H : Heap} {locs : List Loc} {cells slots : Nat} {Q : State → Prop} {ls : Array Slot} {X1 X2 : WX} {u v : St} {b L i n : Nat} {xs : Nat → Int32} {Rel : St → St → Prop} (A : LA X1 X2 p s m meth c b L xs) (hw : W2 X1 X2 s u v H locs) (hl : lv_has ls 4 [(0, .ref b), (1, .ref (xq X1 0)), (2, .ref (xq X2 0)), (3, .int (nI i))]) (hi : i + 6 ≤ L) (hf : cells ≤ room_1.cells ∧ slots ≤ room_1.slots) (B : S_drawn Rel n) (hR : Rel u v) (kk : ∀ (u' v' : St) (H : Heap) (locs : List Loc), Rel u' v' → W2 X1 X2 s u' v' H locs → W p l e room_1 s m #[Value.ref b] below meth c H locs cells slots Q (F0 m 1560 ls [])) : W p l e room_1 s m #[Value.ref b] below meth c H locs cells slots Q (F0 m 952 ls []) := by
  obtain ⟨hx, hb, hml, hown, hts⟩ := id A.1
  refine lv_aload_n hx hb dL_law_952 rfl (lv_at hl 1 rfl) ?_
  refine lv_aload_n hx hb dL_law_953 rfl (lv_at hl 0 rfl) ?_
  refine lv_iload_n hx hb dL_law_954 rfl (lv_at hl 3 rfl) ?_
  refine lv_iconst (v := 1) hx hb dL_law_955 (by decide) ?_
  refine lv_iadd hx hb dL_law_956 ?_
  refine l_ld A hw (l_in (j := 1) hi A.2.2.2.2.1 (by decide) rfl) dL_law_957 ?_
  refine lv_aload_n hx hb dL_law_958 rfl (lv_at hl 0 rfl) ?_
  refine lv_iload_n hx hb dL_law_959 rfl (lv_at hl 3 rfl) ?_
  refine lv_iconst (v := 2) hx hb dL_law_960 (by decide) ?_
  refine lv_iadd hx hb dL_law_961 ?_
  refine l_ld A hw (l_in (j := 2) hi A.2.2.2.2.1 (by decide) rfl) dL_law_962 ?_
  refine lv_aload_n hx hb dL_law_963 rfl (lv_at hl 0 rfl) ?_
  refine lv_iload_n hx hb dL_law_964 rfl (lv_at hl 3 rfl) ?_
  refine lv_iconst (v := 3) hx hb dL_law_965 (by decide) ?_
  refine lv_iadd hx hb dL_law_966 ?_
  refine l_ld A hw (l_in (j := 3) hi A.2.2.2.2.1 (by decide) rfl) dL_law_967 ?_
  refine lv_aload_n hx hb dL_law_968 rfl (lv_at hl 0 rfl) ?_
  refine lv_iload_n hx hb dL_law_969 rfl (lv_at hl 3 rfl) ?_
  refine lv_iconst (v := 4) hx hb dL_law_970 (by decide) ?_
  refine lv_iadd hx hb dL_law_971 ?_
  refine l_ld A hw (l_in (j := 4) hi A.2.2.2.2.1 (by decide) rfl) dL_law_972 ?_
  obtain ⟨r, u', v', h1, h2, hR'⟩ := B u v (xs (nI i + 1).toNatClampNeg) (xs (nI i + 2).toNatClampNeg) (xs (nI i + 3).toNatClampNeg) (xs (nI i + 4).toNatClampNeg) hR
  refine l_callCI (rest := []) A hw (zX11_drawn l _ n u (xs (nI i + 1).toNatClampNeg) (xs (nI i + 2).toNatClampNeg) (xs (nI i + 3).toNatClampNeg) (xs (nI i + 4).toNatClampNeg) (r, u') h1) km_L_113 ki_yX11_drawn kv_X11_drawn kz_X11 kc_X11_drawn rfl ok_yX11_drawn ⟨Nat.le_of_ble_eq_true rfl, Nat.le_of_ble_eq_true rfl⟩ rfl rfl rfl rfl hl.1 (Nat.le_of_ble_eq_true rfl) dL_law_973 hf (fun H locs hw => ?_)
  refine lv_aload_n hx hb dL_law_976 rfl (lv_at hl 2 rfl) ?_
  refine lv_aload_n hx hb dL_law_977 rfl (lv_at hl 0 rfl) ?_
  refine lv_iload_n hx hb dL_law_978 rfl (lv_at hl 3 rfl) ?_
  refine lv_iconst (v := 1) hx hb dL_law_979 (by decide) ?_
  refine lv_iadd hx hb dL_law_980 ?_
  refine l_ld A hw (l_in (j := 1) hi A.2.2.2.2.1 (by decide) rfl) dL_law_981 ?_
  refine lv_aload_n hx hb dL_law_982 rfl (lv_at hl 0 rfl) ?_
  refine lv_iload_n hx hb dL_law_983 rfl (lv_at hl 3 rfl) ?_
  refine lv_iconst (v := 2) hx hb dL_law_984 (by decide) ?_
  refine lv_iadd hx hb dL_law_985 ?_
  refine l_ld A hw (l_in (j := 2) hi A.2.2.2.2.1 (by decide) rfl) dL_law_986 ?_
  refine lv_aload_n hx hb dL_law_987 rfl (lv_at hl 0 rfl) ?_
  refine lv_iload_n hx hb dL_law_988 rfl (lv_at hl 3 rfl) ?_
  refine lv_iconst (v := 3) hx hb dL_law_989 (by decide) ?_
  refine lv_iadd hx hb dL_law_990 ?_
  refine l_ld A hw (l_in (j := 3) hi A.2.2.2.2.1 (by decide) rfl) dL_law_991 ?_
  refine lv_aload_n hx hb dL_law_992 rfl (lv_at hl 0 rfl) ?_
  refine lv_iload_n hx hb dL_law_993 rfl (lv_at hl 3 rfl) ?_
  refine lv_iconst (v := 4) hx hb dL_law_994 (by decide) ?_
  refine lv_iadd hx hb dL_law_995 ?_
  refine l_ld A hw (l_in (j := 4) hi A.2.2.2.2.1 (by decide) rfl) dL_law_996 ?_
  refine l_callMI (rest := [.int (r)]) A hw (zX12_drawn l _ n v (xs (nI i + 1).toNatClampNeg) (xs (nI i + 2).toNatClampNeg) (xs (nI i + 3).toNatClampNeg) (xs (nI i + 4).toNatClampNeg) (r, v') h2) km_L_117 ki_yX12_drawn kv_X12_drawn kz_X12 kc_X12_drawn rfl ok_yX12_drawn ⟨Nat.le_of_ble_eq_true rfl, Nat.le_of_ble_eq_true rfl⟩ rfl rfl rfl rfl hl.1 (Nat.le_of_ble_eq_true rfl) dL_law_997 hf (fun H locs hw => ?_)
  refine lv_icmp_eq (tgt := 1560) hx hb dL_law_1000 (by decide) (fun c1 => kk _ _ _ _ hR' hw) (fun c1 => absurd rfl c1)
set_option maxHeartbeats 4000000 in
theorem law_find {p : Program} {l : Launch} {e : Env} {s : State} {m : MethodId} {below : List Frame} {meth : Method} {c : Code} {H : Heap} {locs : List Loc} {cells slots : Nat} {Q : State → Prop} {ls : Array Slot} {X1 X2 : WX} {u v : St} {b L i n : Nat} {xs : Nat → Int32} {Rel : St → St → Prop} (A : LA X1 X2 p s m meth c b L xs) (hw : W2 X1 X2 s u v H locs) (hl : lv_has ls 4 [(0, .ref b), (1, .ref (xq X1 0)), (2, .ref (xq X2 0)), (3, .int (nI i))]) (hi : i + 6 ≤ L) (hf : cells ≤ room_1.cells ∧ slots ≤ room_1.slots) (B : S_find Rel n) (hR : Rel u v) (kk : ∀ (u' v' : St) (H : Heap) (locs : List Loc), Rel u' v' → W2 X1 X2 s u' v' H locs → W p l e room_1 s m #[Value.ref b] below meth c H locs cells slots Q (F0 m 1560 ls [])) : W p l e room_1 s m #[Value.ref b] below meth c H locs cells slots Q (F0 m 1005 ls []) := by
  obtain ⟨hx, hb, hml, hown, hts⟩ := id A.1
  refine lv_aload_n hx hb dL_law_1005 rfl (lv_at hl 1 rfl) ?_
  refine lv_aload_n hx hb dL_law_1006 rfl (lv_at hl 0 rfl) ?_
  refine lv_iload_n hx hb dL_law_1007 rfl (lv_at hl 3 rfl) ?_
  refine lv_iconst (v := 1) hx hb dL_law_1008 (by decide) ?_
  refine lv_iadd hx hb dL_law_1009 ?_
  refine l_ld A hw (l_in (j := 1) hi A.2.2.2.2.1 (by decide) rfl) dL_law_1010 ?_
  obtain ⟨r, u', v', h1, h2, hR'⟩ := B u v (xs (nI i + 1).toNatClampNeg) hR
  refine l_callCI (rest := []) A hw (zX11_find l _ n u (xs (nI i + 1).toNatClampNeg) (r, u') h1) km_L_118 ki_yX11_find kv_X11_find kz_X11 kc_X11_find rfl ok_yX11_find ⟨Nat.le_of_ble_eq_true rfl, Nat.le_of_ble_eq_true rfl⟩ rfl rfl rfl rfl hl.1 (Nat.le_of_ble_eq_true rfl) dL_law_1011 hf (fun H locs hw => ?_)
  refine lv_aload_n hx hb dL_law_1014 rfl (lv_at hl 2 rfl) ?_
  refine lv_aload_n hx hb dL_law_1015 rfl (lv_at hl 0 rfl) ?_
  refine lv_iload_n hx hb dL_law_1016 rfl (lv_at hl 3 rfl) ?_
  refine lv_iconst (v := 1) hx hb dL_law_1017 (by decide) ?_
  refine lv_iadd hx hb dL_law_1018 ?_
  refine l_ld A hw (l_in (j := 1) hi A.2.2.2.2.1 (by decide) rfl) dL_law_1019 ?_
  refine l_callMI (rest := [.int (r)]) A hw (zX12_find l _ n v (xs (nI i + 1).toNatClampNeg) (r, v') h2) km_L_121 ki_yX12_find kv_X12_find kz_X12 kc_X12_find rfl ok_yX12_find ⟨Nat.le_of_ble_eq_true rfl, Nat.le_of_ble_eq_true rfl⟩ rfl rfl rfl rfl hl.1 (Nat.le_of_ble_eq_true rfl) dL_law_1020 hf (fun H locs hw => ?_)
  refine lv_icmp_eq (tgt := 1560) hx hb dL_law_1023 (by decide) (fun c1 => kk _ _ _ _ hR' hw) (fun c1 => absurd rfl c1)
set_option maxHeartbeats 4000000 in
theorem law_pay {p : Program} {l : Launch} {e : Env} {s : State} {m : MethodId} {below : List Frame} {meth : Method} {c : Code} {H : Heap} {locs : List Loc} {cells slots : Nat} {Q : State → Prop} {ls : Array Slot} {X1 X2 : WX} {u v : St} {b L i n : Nat} {xs : Nat → Int32} {Rel : St → St → Prop} (A : LA X1 X2 p s m meth c b L xs) (hw : W2 X1 X2 s u v H locs) (hl : lv_has ls 4 [(0, .ref b), (1, .ref (xq X1 0)), (2, .ref (xq X2 0)), (3, .int (nI i))]) (hi : i + 6 ≤ L) (hf : cells ≤ room_1.cells ∧ slots ≤ room_1.slots) (B : S_pay Rel n) (hR : Rel u v) (kk : ∀ (u' v' : St) (H : Heap) (locs : List Loc), Rel u' v' → W2 X1 X2 s u' v' H locs → W p l e room_1 s m #[Value.ref b] below meth c H locs cells slots Q (F0 m 1560 ls [])) : W p l e room_1 s m #[Value.ref b] below meth c H locs cells slots Q (F0 m 1028 ls []) := by
  obtain ⟨hx, hb, hml, hown, hts⟩ := id A.1
  refine lv_aload_n hx hb dL_law_1028 rfl (lv_at hl 1 rfl) ?_
  refine lv_aload_n hx hb dL_law_1029 rfl (lv_at hl 0 rfl) ?_
  refine lv_iload_n hx hb dL_law_1030 rfl (lv_at hl 3 rfl) ?_
  refine lv_iconst (v := 1) hx hb dL_law_1031 (by decide) ?_
  refine lv_iadd hx hb dL_law_1032 ?_
  refine l_ld A hw (l_in (j := 1) hi A.2.2.2.2.1 (by decide) rfl) dL_law_1033 ?_
  refine lv_aload_n hx hb dL_law_1034 rfl (lv_at hl 0 rfl) ?_
  refine lv_iload_n hx hb dL_law_1035 rfl (lv_at hl 3 rfl) ?_
  refine lv_iconst (v := 2) hx hb dL_law_1036 (by decide) ?_
  refine lv_iadd hx hb dL_law_1037 ?_
  refine l_ld A hw (l_in (j := 2) hi A.2.2.2.2.1 (by decide) rfl) dL_law_1038 ?_
  obtain ⟨r, u', v', h1, h2, hR'⟩ := B u v (xs (nI i + 1).toNatClampNeg) (xs (nI i + 2).toNatClampNeg) hR
  refine l_callCI (rest := []) A hw (zX11_pay l _ u (xs (nI i + 1).toNatClampNeg) (xs (nI i + 2).toNatClampNeg) (r, u') h1) km_L_122 ki_yX11_pay kv_X11_pay kz_X11 kc_X11_pay rfl ok_yX11_pay ⟨Nat.le_of_ble_eq_true rfl, Nat.le_of_ble_eq_true rfl⟩ rfl rfl rfl rfl hl.1 (Nat.le_of_ble_eq_true rfl) dL_law_1039 hf (fun H locs hw => ?_)
  refine lv_aload_n hx hb dL_law_1042 rfl (lv_at hl 2 rfl) ?_
  refine lv_aload_n hx hb dL_law_1043 rfl (lv_at hl 0 rfl) ?_
  refine lv_iload_n hx hb dL_law_1044 rfl (lv_at hl 3 rfl) ?_
  refine lv_iconst (v := 1) hx hb dL_law_1045 (by decide) ?_
  refine lv_iadd hx hb dL_law_1046 ?_
  refine l_ld A hw (l_in (j := 1) hi A.2.2.2.2.1 (by decide) rfl) dL_law_1047 ?_
  refine lv_aload_n hx hb dL_law_1048 rfl (lv_at hl 0 rfl) ?_
  refine lv_iload_n hx hb dL_law_1049 rfl (lv_at hl 3 rfl) ?_
  refine lv_iconst (v := 2) hx hb dL_law_1050 (by decide) ?_
  refine lv_iadd hx hb dL_law_1051 ?_
  refine l_ld A hw (l_in (j := 2) hi A.2.2.2.2.1 (by decide) rfl) dL_law_1052 ?_
  refine l_callMI (rest := [.int (r)]) A hw (zX12_pay l _ v (xs (nI i + 1).toNatClampNeg) (xs (nI i + 2).toNatClampNeg) (r, v') h2) km_L_125 ki_yX12_pay kv_X12_pay kz_X12 kc_X12_pay rfl ok_yX12_pay ⟨Nat.le_of_ble_eq_true rfl, Nat.le_of_ble_eq_true rfl⟩ rfl rfl rfl rfl hl.1 (Nat.le_of_ble_eq_true rfl) dL_law_1053 hf (fun H locs hw => ?_)
  refine lv_icmp_eq (tgt := 1560) hx hb dL_law_1056 (by decide) (fun c1 => kk _ _ _ _ hR' hw) (fun c1 => absurd rfl c1)
set_option maxHeartbeats 4000000 in
theorem law_give {p : Program} {l : Launch} {e : Env} {s : State} {m : MethodId} {below : List Frame} {meth : Method} {c : Code} {H : Heap} {locs : List Loc} {cells slots : Nat} {Q : State → Prop} {ls : Array Slot} {X1 X2 : WX} {u v : St} {b L i n : Nat} {xs : Nat → Int32} {Rel : St → St → Prop} (A : LA X1 X2 p s m meth c b L xs) (hw : W2 X1 X2 s u v H locs) (hl : lv_has ls 4 [(0, .ref b), (1, .ref (xq X1 0)), (2, .ref (xq X2 0)), (3, .int (nI i))]) (hi : i + 6 ≤ L) (hf : cells ≤ room_1.cells ∧ slots ≤ room_1.slots) (B : S_give Rel n) (hR : Rel u v) (kk : ∀ (u' v' : St) (H : Heap) (locs : List Loc), Rel u' v' → W2 X1 X2 s u' v' H locs → W p l e room_1 s m #[Value.ref b] below meth c H locs cells slots Q (F0 m 1560 ls [])) : W p l e room_1 s m #[Value.ref b] below meth c H locs cells slots Q (F0 m 1061 ls []) := by
  obtain ⟨hx, hb, hml, hown, hts⟩ := id A.1
  refine lv_aload_n hx hb dL_law_1061 rfl (lv_at hl 1 rfl) ?_
  refine lv_aload_n hx hb dL_law_1062 rfl (lv_at hl 0 rfl) ?_
  refine lv_iload_n hx hb dL_law_1063 rfl (lv_at hl 3 rfl) ?_
  refine lv_iconst (v := 1) hx hb dL_law_1064 (by decide) ?_
  refine lv_iadd hx hb dL_law_1065 ?_
  refine l_ld A hw (l_in (j := 1) hi A.2.2.2.2.1 (by decide) rfl) dL_law_1066 ?_
  refine lv_aload_n hx hb dL_law_1067 rfl (lv_at hl 0 rfl) ?_
  refine lv_iload_n hx hb dL_law_1068 rfl (lv_at hl 3 rfl) ?_
  refine lv_iconst (v := 2) hx hb dL_law_1069 (by decide) ?_
  refine lv_iadd hx hb dL_law_1070 ?_
  refine l_ld A hw (l_in (j := 2) hi A.2.2.2.2.1 (by decide) rfl) dL_law_1071 ?_
  obtain ⟨r, u', v', h1, h2, hR'⟩ := B u v (xs (nI i + 1).toNatClampNeg) (xs (nI i + 2).toNatClampNeg) hR
  refine l_callCI (rest := []) A hw (zX11_give l _ u (xs (nI i + 1).toNatClampNeg) (xs (nI i + 2).toNatClampNeg) (r, u') h1) km_L_126 ki_yX11_give kv_X11_give kz_X11 kc_X11_give rfl ok_yX11_give ⟨Nat.le_of_ble_eq_true rfl, Nat.le_of_ble_eq_true rfl⟩ rfl rfl rfl rfl hl.1 (Nat.le_of_ble_eq_true rfl) dL_law_1072 hf (fun H locs hw => ?_)
  refine lv_aload_n hx hb dL_law_1075 rfl (lv_at hl 2 rfl) ?_
  refine lv_aload_n hx hb dL_law_1076 rfl (lv_at hl 0 rfl) ?_
  refine lv_iload_n hx hb dL_law_1077 rfl (lv_at hl 3 rfl) ?_
  refine lv_iconst (v := 1) hx hb dL_law_1078 (by decide) ?_
  refine lv_iadd hx hb dL_law_1079 ?_
  refine l_ld A hw (l_in (j := 1) hi A.2.2.2.2.1 (by decide) rfl) dL_law_1080 ?_
  refine lv_aload_n hx hb dL_law_1081 rfl (lv_at hl 0 rfl) ?_
  refine lv_iload_n hx hb dL_law_1082 rfl (lv_at hl 3 rfl) ?_
  refine lv_iconst (v := 2) hx hb dL_law_1083 (by decide) ?_
  refine lv_iadd hx hb dL_law_1084 ?_
  refine l_ld A hw (l_in (j := 2) hi A.2.2.2.2.1 (by decide) rfl) dL_law_1085 ?_
  refine l_callMI (rest := [.int (r)]) A hw (zX12_give l _ v (xs (nI i + 1).toNatClampNeg) (xs (nI i + 2).toNatClampNeg) (r, v') h2) km_L_129 ki_yX12_give kv_X12_give kz_X12 kc_X12_give rfl ok_yX12_give ⟨Nat.le_of_ble_eq_true rfl, Nat.le_of_ble_eq_true rfl⟩ rfl rfl rfl rfl hl.1 (Nat.le_of_ble_eq_true rfl) dL_law_1086 hf (fun H locs hw => ?_)
  refine lv_icmp_eq (tgt := 1560) hx hb dL_law_1089 (by decide) (fun c1 => kk _ _ _ _ hR' hw) (fun c1 => absurd rfl c1)
set_option maxHeartbeats 4000000 in
theorem law_led {p : Program} {l : Launch} {e : Env} {s : State} {m : MethodId} {below : List Frame} {meth : Method} {c : Code} {H : Heap} {locs : List Loc} {cells slots : Nat} {Q : State → Prop} {ls : Array Slot} {X1 X2 : WX} {u v : St} {b L i n : Nat} {xs : Nat → Int32} {Rel : St → St → Prop} (A : LA X1 X2 p s m meth c b L xs) (hw : W2 X1 X2 s u v H locs) (hl : lv_has ls 4 [(0, .ref b), (1, .ref (xq X1 0)), (2, .ref (xq X2 0)), (3, .int (nI i))]) (hi : i + 6 ≤ L) (hf : cells ≤ room_1.cells ∧ slots ≤ room_1.slots) (B : S_led Rel n) (hR : Rel u v) (kk : ∀ (u' v' : St) (H : Heap) (locs : List Loc), Rel u' v' → W2 X1 X2 s u' v' H locs → W p l e room_1 s m #[Value.ref b] below meth c H locs cells slots Q (F0 m 1560 ls [])) : W p l e room_1 s m #[Value.ref b] below meth c H locs cells slots Q (F0 m 1094 ls []) := by
  obtain ⟨hx, hb, hml, hown, hts⟩ := id A.1
  refine lv_aload_n hx hb dL_law_1094 rfl (lv_at hl 1 rfl) ?_
  refine lv_aload_n hx hb dL_law_1095 rfl (lv_at hl 0 rfl) ?_
  refine lv_iload_n hx hb dL_law_1096 rfl (lv_at hl 3 rfl) ?_
  refine lv_iconst (v := 1) hx hb dL_law_1097 (by decide) ?_
  refine lv_iadd hx hb dL_law_1098 ?_
  refine l_ld A hw (l_in (j := 1) hi A.2.2.2.2.1 (by decide) rfl) dL_law_1099 ?_
  obtain ⟨r, u', v', h1, h2, hR'⟩ := B u v (xs (nI i + 1).toNatClampNeg) hR
  obtain ⟨h1, h1e⟩ := h1
  rw [h1e] at hR'
  refine l_callCI (rest := []) A hw (zX11_led l _ u (xs (nI i + 1).toNatClampNeg) r h1) km_L_130 ki_yX11_led kv_X11_led kz_X11 kc_X11_led rfl ok_yX11_led ⟨Nat.le_of_ble_eq_true rfl, Nat.le_of_ble_eq_true rfl⟩ rfl rfl rfl rfl hl.1 (Nat.le_of_ble_eq_true rfl) dL_law_1100 hf (fun H locs hw => ?_)
  refine lv_aload_n hx hb dL_law_1103 rfl (lv_at hl 2 rfl) ?_
  refine lv_aload_n hx hb dL_law_1104 rfl (lv_at hl 0 rfl) ?_
  refine lv_iload_n hx hb dL_law_1105 rfl (lv_at hl 3 rfl) ?_
  refine lv_iconst (v := 1) hx hb dL_law_1106 (by decide) ?_
  refine lv_iadd hx hb dL_law_1107 ?_
  refine l_ld A hw (l_in (j := 1) hi A.2.2.2.2.1 (by decide) rfl) dL_law_1108 ?_
  obtain ⟨h2, h2e⟩ := h2
  rw [h2e] at hR'
  refine l_callMI (rest := [.int (r)]) A hw (zX12_led l _ v (xs (nI i + 1).toNatClampNeg) r h2) km_L_133 ki_yX12_led kv_X12_led kz_X12 kc_X12_led rfl ok_yX12_led ⟨Nat.le_of_ble_eq_true rfl, Nat.le_of_ble_eq_true rfl⟩ rfl rfl rfl rfl hl.1 (Nat.le_of_ble_eq_true rfl) dL_law_1109 hf (fun H locs hw => ?_)
  refine lv_icmp_eq (tgt := 1560) hx hb dL_law_1112 (by decide) (fun c1 => kk _ _ _ _ hR' hw) (fun c1 => absurd rfl c1)
set_option maxHeartbeats 4000000 in
theorem law_image {p : Program} {l : Launch} {e : Env} {s : State} {m : MethodId} {below : List Frame} {meth : Method} {c : Code} {H : Heap} {locs : List Loc} {cells slots : Nat} {Q : State → Prop} {ls : Array Slot} {X1 X2 : WX} {u v : St} {b L i n : Nat} {xs : Nat → Int32} {Rel : St → St → Prop} (A : LA X1 X2 p s m meth c b L xs) (hw : W2 X1 X2 s u v H locs) (hl : lv_has ls 4 [(0, .ref b), (1, .ref (xq X1 0)), (2, .ref (xq X2 0)), (3, .int (nI i))]) (hi : i + 6 ≤ L) (hf : cells ≤ room_1.cells ∧ slots ≤ room_1.slots) (B : S_image Rel n) (hR : Rel u v) (kk : ∀ (u' v' : St) (H : Heap) (locs : List Loc), Rel u' v' → W2 X1 X2 s u' v' H locs → W p l e room_1 s m #[Value.ref b] below meth c H locs cells slots Q (F0 m 1560 ls [])) : W p l e room_1 s m #[Value.ref b] below meth c H locs cells slots Q (F0 m 1117 ls []) := by
  obtain ⟨hx, hb, hml, hown, hts⟩ := id A.1
  refine lv_aload_n hx hb dL_law_1117 rfl (lv_at hl 1 rfl) ?_
  obtain ⟨r, u', v', h1, h2, hR'⟩ := B u v  hR
  refine l_callCI (rest := []) A hw (zX11_image l _ u (r, u') h1) km_L_134 ki_yX11_image kv_X11_image kz_X11 kc_X11_image rfl ok_yX11_image ⟨Nat.le_of_ble_eq_true rfl, Nat.le_of_ble_eq_true rfl⟩ rfl rfl rfl rfl hl.1 (Nat.le_of_ble_eq_true rfl) dL_law_1118 hf (fun H locs hw => ?_)
  refine lv_aload_n hx hb dL_law_1121 rfl (lv_at hl 2 rfl) ?_
  refine l_callMI (rest := [.int (r)]) A hw (zX12_image l _ n v (r, v') h2) km_L_137 ki_yX12_image kv_X12_image kz_X12 kc_X12_image rfl ok_yX12_image ⟨Nat.le_of_ble_eq_true rfl, Nat.le_of_ble_eq_true rfl⟩ rfl rfl rfl rfl hl.1 (Nat.le_of_ble_eq_true rfl) dL_law_1122 hf (fun H locs hw => ?_)
  refine lv_icmp_eq (tgt := 1560) hx hb dL_law_1125 (by decide) (fun c1 => kk _ _ _ _ hR' hw) (fun c1 => absurd rfl c1)
set_option maxHeartbeats 4000000 in
theorem law_back {p : Program} {l : Launch} {e : Env} {s : State} {m : MethodId} {below : List Frame} {meth : Method} {c : Code} {H : Heap} {locs : List Loc} {cells slots : Nat} {Q : State → Prop} {ls : Array Slot} {X1 X2 : WX} {u v : St} {b L i n : Nat} {xs : Nat → Int32} {Rel : St → St → Prop} (A : LA X1 X2 p s m meth c b L xs) (hw : W2 X1 X2 s u v H locs) (hl : lv_has ls 4 [(0, .ref b), (1, .ref (xq X1 0)), (2, .ref (xq X2 0)), (3, .int (nI i))]) (hi : i + 6 ≤ L) (hf : cells ≤ room_1.cells ∧ slots ≤ room_1.slots) (B : S_back Rel n) (hR : Rel u v) (kk : ∀ (u' v' : St) (H : Heap) (locs : List Loc), Rel u' v' → W2 X1 X2 s u' v' H locs → W p l e room_1 s m #[Value.ref b] below meth c H locs cells slots Q (F0 m 1560 ls [])) : W p l e room_1 s m #[Value.ref b] below meth c H locs cells slots Q (F0 m 1130 ls []) := by
  obtain ⟨hx, hb, hml, hown, hts⟩ := id A.1
  refine lv_aload_n hx hb dL_law_1130 rfl (lv_at hl 1 rfl) ?_
  obtain ⟨r, u', v', h1, h2, hR'⟩ := B u v  hR
  refine l_callCI (rest := []) A hw (zX11_back l _ u (r, u') h1) km_L_138 ki_yX11_back kv_X11_back kz_X11 kc_X11_back rfl ok_yX11_back ⟨Nat.le_of_ble_eq_true rfl, Nat.le_of_ble_eq_true rfl⟩ rfl rfl rfl rfl hl.1 (Nat.le_of_ble_eq_true rfl) dL_law_1131 hf (fun H locs hw => ?_)
  refine lv_aload_n hx hb dL_law_1134 rfl (lv_at hl 2 rfl) ?_
  refine l_callMI (rest := [.int (r)]) A hw (zX12_back l _ n v (r, v') h2) km_L_141 ki_yX12_back kv_X12_back kz_X12 kc_X12_back rfl ok_yX12_back ⟨Nat.le_of_ble_eq_true rfl, Nat.le_of_ble_eq_true rfl⟩ rfl rfl rfl rfl hl.1 (Nat.le_of_ble_eq_true rfl) dL_law_1135 hf (fun H locs hw => ?_)
  refine lv_icmp_eq (tgt := 1560) hx hb dL_law_1138 (by decide) (fun c1 => kk _ _ _ _ hR' hw) (fun c1 => absurd rfl c1)
set_option maxHeartbeats 4000000 in
theorem law_undo {p : Program} {l : Launch} {e : Env} {s : State} {m : MethodId} {below : List Frame} {meth : Method} {c : Code} {H : Heap} {locs : List Loc} {cells slots : Nat} {Q : State → Prop} {ls : Array Slot} {X1 X2 : WX} {u v : St} {b L i n : Nat} {xs : Nat → Int32} {Rel : St → St → Prop} (A : LA X1 X2 p s m meth c b L xs) (hw : W2 X1 X2 s u v H locs) (hl : lv_has ls 4 [(0, .ref b), (1, .ref (xq X1 0)), (2, .ref (xq X2 0)), (3, .int (nI i))]) (hi : i + 6 ≤ L) (hf : cells ≤ room_1.cells ∧ slots ≤ room_1.slots) (B : S_undo Rel n) (hR : Rel u v) (kk : ∀ (u' v' : St) (H : Heap) (locs : List Loc), Rel u' v' → W2 X1 X2 s u' v' H locs → W p l e room_1 s m #[Value.ref b] below meth c H locs cells slots Q (F0 m 1560 ls [])) : W p l e room_1 s m #[Value.ref b] below meth c H locs cells slots Q (F0 m 1143 ls []) := by
  obtain ⟨hx, hb, hml, hown, hts⟩ := id A.1
  refine lv_aload_n hx hb dL_law_1143 rfl (lv_at hl 1 rfl) ?_
  obtain ⟨r, u', v', h1, h2, hR'⟩ := B u v  hR
  refine l_callCI (rest := []) A hw (zX11_undo l _ u (r, u') h1) km_L_142 ki_yX11_undo kv_X11_undo kz_X11 kc_X11_undo rfl ok_yX11_undo ⟨Nat.le_of_ble_eq_true rfl, Nat.le_of_ble_eq_true rfl⟩ rfl rfl rfl rfl hl.1 (Nat.le_of_ble_eq_true rfl) dL_law_1144 hf (fun H locs hw => ?_)
  refine lv_aload_n hx hb dL_law_1147 rfl (lv_at hl 2 rfl) ?_
  refine l_callMI (rest := [.int (r)]) A hw (zX12_undo l _ v (r, v') h2) km_L_145 ki_yX12_undo kv_X12_undo kz_X12 kc_X12_undo rfl ok_yX12_undo ⟨Nat.le_of_ble_eq_true rfl, Nat.le_of_ble_eq_true rfl⟩ rfl rfl rfl rfl hl.1 (Nat.le_of_ble_eq_true rfl) dL_law_1148 hf (fun H locs hw => ?_)
  refine lv_icmp_eq (tgt := 1560) hx hb dL_law_1151 (by decide) (fun c1 => kk _ _ _ _ hR' hw) (fun c1 => absurd rfl c1)
set_option maxHeartbeats 4000000 in
theorem law_redo {p : Program} {l : Launch} {e : Env} {s : State} {m : MethodId} {below : List Frame} {meth : Method} {c : Code} {H : Heap} {locs : List Loc} {cells slots : Nat} {Q : State → Prop} {ls : Array Slot} {X1 X2 : WX} {u v : St} {b L i n : Nat} {xs : Nat → Int32} {Rel : St → St → Prop} (A : LA X1 X2 p s m meth c b L xs) (hw : W2 X1 X2 s u v H locs) (hl : lv_has ls 4 [(0, .ref b), (1, .ref (xq X1 0)), (2, .ref (xq X2 0)), (3, .int (nI i))]) (hi : i + 6 ≤ L) (hf : cells ≤ room_1.cells ∧ slots ≤ room_1.slots) (B : S_redo Rel n) (hR : Rel u v) (kk : ∀ (u' v' : St) (H : Heap) (locs : List Loc), Rel u' v' → W2 X1 X2 s u' v' H locs → W p l e room_1 s m #[Value.ref b] below meth c H locs cells slots Q (F0 m 1560 ls [])) : W p l e room_1 s m #[Value.ref b] below meth c H locs cells slots Q (F0 m 1156 ls []) := by
  obtain ⟨hx, hb, hml, hown, hts⟩ := id A.1
  refine lv_aload_n hx hb dL_law_1156 rfl (lv_at hl 1 rfl) ?_
  obtain ⟨r, u', v', h1, h2, hR'⟩ := B u v  hR
  refine l_callCI (rest := []) A hw (zX11_redo l _ u (r, u') h1) km_L_146 ki_yX11_redo kv_X11_redo kz_X11 kc_X11_redo rfl ok_yX11_redo ⟨Nat.le_of_ble_eq_true rfl, Nat.le_of_ble_eq_true rfl⟩ rfl rfl rfl rfl hl.1 (Nat.le_of_ble_eq_true rfl) dL_law_1157 hf (fun H locs hw => ?_)
  refine lv_aload_n hx hb dL_law_1160 rfl (lv_at hl 2 rfl) ?_
  refine l_callMI (rest := [.int (r)]) A hw (zX12_redo l _ v (r, v') h2) km_L_149 ki_yX12_redo kv_X12_redo kz_X12 kc_X12_redo rfl ok_yX12_redo ⟨Nat.le_of_ble_eq_true rfl, Nat.le_of_ble_eq_true rfl⟩ rfl rfl rfl rfl hl.1 (Nat.le_of_ble_eq_true rfl) dL_law_1161 hf (fun H locs hw => ?_)
  refine lv_icmp_eq (tgt := 1560) hx hb dL_law_1164 (by decide) (fun c1 => kk _ _ _ _ hR' hw) (fun c1 => absurd rfl c1)
set_option maxHeartbeats 4000000 in
theorem law_body {p : Program} {l : Launch} {e : Env} {s : State} {m : MethodId} {below : List Frame} {meth : Method} {c : Code} {H : Heap} {locs : List Loc} {cells slots : Nat} {Q : State → Prop} {ls : Array Slot} {X1 X2 : WX} {u v : St} {b L i n : Nat} {xs : Nat → Int32} {Rel : St → St → Prop} (A : LA X1 X2 p s m meth c b L xs) (hw : W2 X1 X2 s u v H locs) (hl : lv_has ls 4 [(0, .ref b), (1, .ref (xq X1 0)), (2, .ref (xq X2 0)), (3, .int (nI i))]) (hi : i + 6 ≤ L) (hf : cells ≤ room_1.cells ∧ slots ≤ room_1.slots) (B : S_body Rel n) (hR : Rel u v) (kk : ∀ (u' v' : St) (H : Heap) (locs : List Loc), Rel u' v' → W2 X1 X2 s u' v' H locs → W p l e room_1 s m #[Value.ref b] below meth c H locs cells slots Q (F0 m 1560 ls [])) : W p l e room_1 s m #[Value.ref b] below meth c H locs cells slots Q (F0 m 1169 ls []) := by
  obtain ⟨hx, hb, hml, hown, hts⟩ := id A.1
  refine lv_aload_n hx hb dL_law_1169 rfl (lv_at hl 1 rfl) ?_
  refine lv_aload_n hx hb dL_law_1170 rfl (lv_at hl 0 rfl) ?_
  refine lv_iload_n hx hb dL_law_1171 rfl (lv_at hl 3 rfl) ?_
  refine lv_iconst (v := 1) hx hb dL_law_1172 (by decide) ?_
  refine lv_iadd hx hb dL_law_1173 ?_
  refine l_ld A hw (l_in (j := 1) hi A.2.2.2.2.1 (by decide) rfl) dL_law_1174 ?_
  obtain ⟨r, u', v', h1, h2, hR'⟩ := B u v (xs (nI i + 1).toNatClampNeg) hR
  refine l_callCI (rest := []) A hw (zX11_body l _ u (xs (nI i + 1).toNatClampNeg) (r, u') h1) km_L_150 ki_yX11_body kv_X11_body kz_X11 kc_X11_body rfl ok_yX11_body ⟨Nat.le_of_ble_eq_true rfl, Nat.le_of_ble_eq_true rfl⟩ rfl rfl rfl rfl hl.1 (Nat.le_of_ble_eq_true rfl) dL_law_1175 hf (fun H locs hw => ?_)
  refine lv_aload_n hx hb dL_law_1178 rfl (lv_at hl 2 rfl) ?_
  refine lv_aload_n hx hb dL_law_1179 rfl (lv_at hl 0 rfl) ?_
  refine lv_iload_n hx hb dL_law_1180 rfl (lv_at hl 3 rfl) ?_
  refine lv_iconst (v := 1) hx hb dL_law_1181 (by decide) ?_
  refine lv_iadd hx hb dL_law_1182 ?_
  refine l_ld A hw (l_in (j := 1) hi A.2.2.2.2.1 (by decide) rfl) dL_law_1183 ?_
  refine l_callMI (rest := [.int (r)]) A hw (zX12_body l _ v (xs (nI i + 1).toNatClampNeg) (r, v') h2) km_L_153 ki_yX12_body kv_X12_body kz_X12 kc_X12_body rfl ok_yX12_body ⟨Nat.le_of_ble_eq_true rfl, Nat.le_of_ble_eq_true rfl⟩ rfl rfl rfl rfl hl.1 (Nat.le_of_ble_eq_true rfl) dL_law_1184 hf (fun H locs hw => ?_)
  refine lv_icmp_eq (tgt := 1560) hx hb dL_law_1187 (by decide) (fun c1 => kk _ _ _ _ hR' hw) (fun c1 => absurd rfl c1)
set_option maxHeartbeats 4000000 in
theorem law_act {p : Program} {l : Launch} {e : Env} {s : State} {m : MethodId} {below : List Frame} {meth : Method} {c : Code} {H : Heap} {locs : List Loc} {cells slots : Nat} {Q : State → Prop} {ls : Array Slot} {X1 X2 : WX} {u v : St} {b L i n : Nat} {xs : Nat → Int32} {Rel : St → St → Prop} (A : LA X1 X2 p s m meth c b L xs) (hw : W2 X1 X2 s u v H locs) (hl : lv_has ls 4 [(0, .ref b), (1, .ref (xq X1 0)), (2, .ref (xq X2 0)), (3, .int (nI i))]) (hi : i + 6 ≤ L) (hf : cells ≤ room_1.cells ∧ slots ≤ room_1.slots) (B : S_act Rel n) (hR : Rel u v) (kk : ∀ (u' v' : St) (H : Heap) (locs : List Loc), Rel u' v' → W2 X1 X2 s u' v' H locs → W p l e room_1 s m #[Value.ref b] below meth c H locs cells slots Q (F0 m 1560 ls [])) : W p l e room_1 s m #[Value.ref b] below meth c H locs cells slots Q (F0 m 1192 ls []) := by
  obtain ⟨hx, hb, hml, hown, hts⟩ := id A.1
  refine lv_aload_n hx hb dL_law_1192 rfl (lv_at hl 1 rfl) ?_
  refine lv_aload_n hx hb dL_law_1193 rfl (lv_at hl 0 rfl) ?_
  refine lv_iload_n hx hb dL_law_1194 rfl (lv_at hl 3 rfl) ?_
  refine lv_iconst (v := 1) hx hb dL_law_1195 (by decide) ?_
  refine lv_iadd hx hb dL_law_1196 ?_
  refine l_ld A hw (l_in (j := 1) hi A.2.2.2.2.1 (by decide) rfl) dL_law_1197 ?_
  refine lv_aload_n hx hb dL_law_1198 rfl (lv_at hl 0 rfl) ?_
  refine lv_iload_n hx hb dL_law_1199 rfl (lv_at hl 3 rfl) ?_
  refine lv_iconst (v := 2) hx hb dL_law_1200 (by decide) ?_
  refine lv_iadd hx hb dL_law_1201 ?_
  refine l_ld A hw (l_in (j := 2) hi A.2.2.2.2.1 (by decide) rfl) dL_law_1202 ?_
  refine lv_aload_n hx hb dL_law_1203 rfl (lv_at hl 0 rfl) ?_
  refine lv_iload_n hx hb dL_law_1204 rfl (lv_at hl 3 rfl) ?_
  refine lv_iconst (v := 3) hx hb dL_law_1205 (by decide) ?_
  refine lv_iadd hx hb dL_law_1206 ?_
  refine l_ld A hw (l_in (j := 3) hi A.2.2.2.2.1 (by decide) rfl) dL_law_1207 ?_
  obtain ⟨r, u', v', h1, h2, hR'⟩ := B u v (xs (nI i + 1).toNatClampNeg) (xs (nI i + 2).toNatClampNeg) (xs (nI i + 3).toNatClampNeg) hR
  refine l_callCI (rest := []) A hw (zX11_act l _ n u (xs (nI i + 1).toNatClampNeg) (xs (nI i + 2).toNatClampNeg) (xs (nI i + 3).toNatClampNeg) (r, u') h1) km_L_154 ki_yX11_act kv_X11_act kz_X11 kc_X11_act rfl ok_yX11_act ⟨Nat.le_of_ble_eq_true rfl, Nat.le_of_ble_eq_true rfl⟩ rfl rfl rfl rfl hl.1 (Nat.le_of_ble_eq_true rfl) dL_law_1208 hf (fun H locs hw => ?_)
  refine lv_aload_n hx hb dL_law_1211 rfl (lv_at hl 2 rfl) ?_
  refine lv_aload_n hx hb dL_law_1212 rfl (lv_at hl 0 rfl) ?_
  refine lv_iload_n hx hb dL_law_1213 rfl (lv_at hl 3 rfl) ?_
  refine lv_iconst (v := 1) hx hb dL_law_1214 (by decide) ?_
  refine lv_iadd hx hb dL_law_1215 ?_
  refine l_ld A hw (l_in (j := 1) hi A.2.2.2.2.1 (by decide) rfl) dL_law_1216 ?_
  refine lv_aload_n hx hb dL_law_1217 rfl (lv_at hl 0 rfl) ?_
  refine lv_iload_n hx hb dL_law_1218 rfl (lv_at hl 3 rfl) ?_
  refine lv_iconst (v := 2) hx hb dL_law_1219 (by decide) ?_
  refine lv_iadd hx hb dL_law_1220 ?_
  refine l_ld A hw (l_in (j := 2) hi A.2.2.2.2.1 (by decide) rfl) dL_law_1221 ?_
  refine lv_aload_n hx hb dL_law_1222 rfl (lv_at hl 0 rfl) ?_
  refine lv_iload_n hx hb dL_law_1223 rfl (lv_at hl 3 rfl) ?_
  refine lv_iconst (v := 3) hx hb dL_law_1224 (by decide) ?_
  refine lv_iadd hx hb dL_law_1225 ?_
  refine l_ld A hw (l_in (j := 3) hi A.2.2.2.2.1 (by decide) rfl) dL_law_1226 ?_
  refine l_callMI (rest := [.int (r)]) A hw (zX12_act l _ v (xs (nI i + 1).toNatClampNeg) (xs (nI i + 2).toNatClampNeg) (xs (nI i + 3).toNatClampNeg) (r, v') h2) km_L_157 ki_yX12_act kv_X12_act kz_X12 kc_X12_act rfl ok_yX12_act ⟨Nat.le_of_ble_eq_true rfl, Nat.le_of_ble_eq_true rfl⟩ rfl rfl rfl rfl hl.1 (Nat.le_of_ble_eq_true rfl) dL_law_1227 hf (fun H locs hw => ?_)
  refine lv_icmp_eq (tgt := 1560) hx hb dL_law_1230 (by decide) (fun c1 => kk _ _ _ _ hR' hw) (fun c1 => absurd rfl c1)
set_option maxHeartbeats 4000000 in
theorem law_trace {p : Program} {l : Launch} {e : Env} {s : State} {m : MethodId} {below : List Frame} {meth : Method} {c : Code} {H : Heap} {locs : List Loc} {cells slots : Nat} {Q : State → Prop} {ls : Array Slot} {X1 X2 : WX} {u v : St} {b L i n : Nat} {xs : Nat → Int32} {Rel : St → St → Prop} (A : LA X1 X2 p s m meth c b L xs) (hw : W2 X1 X2 s u v H locs) (hl : lv_has ls 4 [(0, .ref b), (1, .ref (xq X1 0)), (2, .ref (xq X2 0)), (3, .int (nI i))]) (hi : i + 6 ≤ L) (hf : cells ≤ room_1.cells ∧ slots ≤ room_1.slots) (B : S_trace Rel n) (hR : Rel u v) (kk : ∀ (u' v' : St) (H : Heap) (locs : List Loc), Rel u' v' → W2 X1 X2 s u' v' H locs → W p l e room_1 s m #[Value.ref b] below meth c H locs cells slots Q (F0 m 1560 ls [])) : W p l e room_1 s m #[Value.ref b] below meth c H locs cells slots Q (F0 m 1235 ls []) := by
  obtain ⟨hx, hb, hml, hown, hts⟩ := id A.1
  refine lv_aload_n hx hb dL_law_1235 rfl (lv_at hl 1 rfl) ?_
  refine lv_aload_n hx hb dL_law_1236 rfl (lv_at hl 0 rfl) ?_
  refine lv_iload_n hx hb dL_law_1237 rfl (lv_at hl 3 rfl) ?_
  refine lv_iconst (v := 1) hx hb dL_law_1238 (by decide) ?_
  refine lv_iadd hx hb dL_law_1239 ?_
  refine l_ld A hw (l_in (j := 1) hi A.2.2.2.2.1 (by decide) rfl) dL_law_1240 ?_
  obtain ⟨r, u', v', h1, h2, hR'⟩ := B u v (xs (nI i + 1).toNatClampNeg) hR
  obtain ⟨h1, h1e⟩ := h1
  rw [h1e] at hR'
  refine l_callCI (rest := []) A hw (zX11_trace l _ u (xs (nI i + 1).toNatClampNeg) r h1) km_L_158 ki_yX11_trace kv_X11_trace kz_X11 kc_X11_trace rfl ok_yX11_trace ⟨Nat.le_of_ble_eq_true rfl, Nat.le_of_ble_eq_true rfl⟩ rfl rfl rfl rfl hl.1 (Nat.le_of_ble_eq_true rfl) dL_law_1241 hf (fun H locs hw => ?_)
  refine lv_aload_n hx hb dL_law_1244 rfl (lv_at hl 2 rfl) ?_
  refine lv_aload_n hx hb dL_law_1245 rfl (lv_at hl 0 rfl) ?_
  refine lv_iload_n hx hb dL_law_1246 rfl (lv_at hl 3 rfl) ?_
  refine lv_iconst (v := 1) hx hb dL_law_1247 (by decide) ?_
  refine lv_iadd hx hb dL_law_1248 ?_
  refine l_ld A hw (l_in (j := 1) hi A.2.2.2.2.1 (by decide) rfl) dL_law_1249 ?_
  obtain ⟨h2, h2e⟩ := h2
  rw [h2e] at hR'
  refine l_callMI (rest := [.int (r)]) A hw (zX12_trace l _ v (xs (nI i + 1).toNatClampNeg) r h2) km_L_161 ki_yX12_trace kv_X12_trace kz_X12 kc_X12_trace rfl ok_yX12_trace ⟨Nat.le_of_ble_eq_true rfl, Nat.le_of_ble_eq_true rfl⟩ rfl rfl rfl rfl hl.1 (Nat.le_of_ble_eq_true rfl) dL_law_1250 hf (fun H locs hw => ?_)
  refine lv_icmp_eq (tgt := 1560) hx hb dL_law_1253 (by decide) (fun c1 => kk _ _ _ _ hR' hw) (fun c1 => absurd rfl c1)
set_option maxHeartbeats 4000000 in
theorem law_keep {p : Program} {l : Launch} {e : Env} {s : State} {m : MethodId} {below : List Frame} {meth : Method} {c : Code} {H : Heap} {locs : List Loc} {cells slots : Nat} {Q : State → Prop} {ls : Array Slot} {X1 X2 : WX} {u v : St} {b L i n : Nat} {xs : Nat → Int32} {Rel : St → St → Prop} (A : LA X1 X2 p s m meth c b L xs) (hw : W2 X1 X2 s u v H locs) (hl : lv_has ls 4 [(0, .ref b), (1, .ref (xq X1 0)), (2, .ref (xq X2 0)), (3, .int (nI i))]) (hi : i + 6 ≤ L) (hf : cells ≤ room_1.cells ∧ slots ≤ room_1.slots) (B : S_keep Rel n) (hR : Rel u v) (kk : ∀ (u' v' : St) (H : Heap) (locs : List Loc), Rel u' v' → W2 X1 X2 s u' v' H locs → W p l e room_1 s m #[Value.ref b] below meth c H locs cells slots Q (F0 m 1560 ls [])) : W p l e room_1 s m #[Value.ref b] below meth c H locs cells slots Q (F0 m 1258 ls []) := by
  obtain ⟨hx, hb, hml, hown, hts⟩ := id A.1
  refine lv_aload_n hx hb dL_law_1258 rfl (lv_at hl 1 rfl) ?_
  refine lv_aload_n hx hb dL_law_1259 rfl (lv_at hl 0 rfl) ?_
  refine lv_iload_n hx hb dL_law_1260 rfl (lv_at hl 3 rfl) ?_
  refine lv_iconst (v := 1) hx hb dL_law_1261 (by decide) ?_
  refine lv_iadd hx hb dL_law_1262 ?_
  refine l_ld A hw (l_in (j := 1) hi A.2.2.2.2.1 (by decide) rfl) dL_law_1263 ?_
  refine lv_aload_n hx hb dL_law_1264 rfl (lv_at hl 0 rfl) ?_
  refine lv_iload_n hx hb dL_law_1265 rfl (lv_at hl 3 rfl) ?_
  refine lv_iconst (v := 2) hx hb dL_law_1266 (by decide) ?_
  refine lv_iadd hx hb dL_law_1267 ?_
  refine l_ld A hw (l_in (j := 2) hi A.2.2.2.2.1 (by decide) rfl) dL_law_1268 ?_
  obtain ⟨r, u', v', h1, h2, hR'⟩ := B u v (xs (nI i + 1).toNatClampNeg) (xs (nI i + 2).toNatClampNeg) hR
  refine l_callCI (rest := []) A hw (zX11_keep l _ u (xs (nI i + 1).toNatClampNeg) (xs (nI i + 2).toNatClampNeg) (r, u') h1) km_L_162 ki_yX11_keep kv_X11_keep kz_X11 kc_X11_keep rfl ok_yX11_keep ⟨Nat.le_of_ble_eq_true rfl, Nat.le_of_ble_eq_true rfl⟩ rfl rfl rfl rfl hl.1 (Nat.le_of_ble_eq_true rfl) dL_law_1269 hf (fun H locs hw => ?_)
  refine lv_aload_n hx hb dL_law_1272 rfl (lv_at hl 2 rfl) ?_
  refine lv_aload_n hx hb dL_law_1273 rfl (lv_at hl 0 rfl) ?_
  refine lv_iload_n hx hb dL_law_1274 rfl (lv_at hl 3 rfl) ?_
  refine lv_iconst (v := 1) hx hb dL_law_1275 (by decide) ?_
  refine lv_iadd hx hb dL_law_1276 ?_
  refine l_ld A hw (l_in (j := 1) hi A.2.2.2.2.1 (by decide) rfl) dL_law_1277 ?_
  refine lv_aload_n hx hb dL_law_1278 rfl (lv_at hl 0 rfl) ?_
  refine lv_iload_n hx hb dL_law_1279 rfl (lv_at hl 3 rfl) ?_
  refine lv_iconst (v := 2) hx hb dL_law_1280 (by decide) ?_
  refine lv_iadd hx hb dL_law_1281 ?_
  refine l_ld A hw (l_in (j := 2) hi A.2.2.2.2.1 (by decide) rfl) dL_law_1282 ?_
  refine l_callMI (rest := [.int (r)]) A hw (zX12_keep l _ v (xs (nI i + 1).toNatClampNeg) (xs (nI i + 2).toNatClampNeg) (r, v') h2) km_L_165 ki_yX12_keep kv_X12_keep kz_X12 kc_X12_keep rfl ok_yX12_keep ⟨Nat.le_of_ble_eq_true rfl, Nat.le_of_ble_eq_true rfl⟩ rfl rfl rfl rfl hl.1 (Nat.le_of_ble_eq_true rfl) dL_law_1283 hf (fun H locs hw => ?_)
  refine lv_icmp_eq (tgt := 1560) hx hb dL_law_1286 (by decide) (fun c1 => kk _ _ _ _ hR' hw) (fun c1 => absurd rfl c1)
set_option maxHeartbeats 4000000 in
theorem law_row {p : Program} {l : Launch} {e : Env} {s : State} {m : MethodId} {below : List Frame} {meth : Method} {c : Code} {H : Heap} {locs : List Loc} {cells slots : Nat} {Q : State → Prop} {ls : Array Slot} {X1 X2 : WX} {u v : St} {b L i n : Nat} {xs : Nat → Int32} {Rel : St → St → Prop} (A : LA X1 X2 p s m meth c b L xs) (hw : W2 X1 X2 s u v H locs) (hl : lv_has ls 4 [(0, .ref b), (1, .ref (xq X1 0)), (2, .ref (xq X2 0)), (3, .int (nI i))]) (hi : i + 6 ≤ L) (hf : cells ≤ room_1.cells ∧ slots ≤ room_1.slots) (B : S_row Rel n) (hR : Rel u v) (kk : ∀ (u' v' : St) (H : Heap) (locs : List Loc), Rel u' v' → W2 X1 X2 s u' v' H locs → W p l e room_1 s m #[Value.ref b] below meth c H locs cells slots Q (F0 m 1560 ls [])) : W p l e room_1 s m #[Value.ref b] below meth c H locs cells slots Q (F0 m 1291 ls []) := by
  obtain ⟨hx, hb, hml, hown, hts⟩ := id A.1
  refine lv_aload_n hx hb dL_law_1291 rfl (lv_at hl 1 rfl) ?_
  refine lv_aload_n hx hb dL_law_1292 rfl (lv_at hl 0 rfl) ?_
  refine lv_iload_n hx hb dL_law_1293 rfl (lv_at hl 3 rfl) ?_
  refine lv_iconst (v := 1) hx hb dL_law_1294 (by decide) ?_
  refine lv_iadd hx hb dL_law_1295 ?_
  refine l_ld A hw (l_in (j := 1) hi A.2.2.2.2.1 (by decide) rfl) dL_law_1296 ?_
  refine lv_aload_n hx hb dL_law_1297 rfl (lv_at hl 0 rfl) ?_
  refine lv_iload_n hx hb dL_law_1298 rfl (lv_at hl 3 rfl) ?_
  refine lv_iconst (v := 2) hx hb dL_law_1299 (by decide) ?_
  refine lv_iadd hx hb dL_law_1300 ?_
  refine l_ld A hw (l_in (j := 2) hi A.2.2.2.2.1 (by decide) rfl) dL_law_1301 ?_
  refine lv_aload_n hx hb dL_law_1302 rfl (lv_at hl 0 rfl) ?_
  refine lv_iload_n hx hb dL_law_1303 rfl (lv_at hl 3 rfl) ?_
  refine lv_iconst (v := 3) hx hb dL_law_1304 (by decide) ?_
  refine lv_iadd hx hb dL_law_1305 ?_
  refine l_ld A hw (l_in (j := 3) hi A.2.2.2.2.1 (by decide) rfl) dL_law_1306 ?_
  obtain ⟨r, u', v', h1, h2, hR'⟩ := B u v (xs (nI i + 1).toNatClampNeg) (xs (nI i + 2).toNatClampNeg) (xs (nI i + 3).toNatClampNeg) hR
  refine l_callCI (rest := []) A hw (zX11_row l _ u (xs (nI i + 1).toNatClampNeg) (xs (nI i + 2).toNatClampNeg) (xs (nI i + 3).toNatClampNeg) (r, u') h1) km_L_166 ki_yX11_row kv_X11_row kz_X11 kc_X11_row rfl ok_yX11_row ⟨Nat.le_of_ble_eq_true rfl, Nat.le_of_ble_eq_true rfl⟩ rfl rfl rfl rfl hl.1 (Nat.le_of_ble_eq_true rfl) dL_law_1307 hf (fun H locs hw => ?_)
  refine lv_aload_n hx hb dL_law_1310 rfl (lv_at hl 2 rfl) ?_
  refine lv_aload_n hx hb dL_law_1311 rfl (lv_at hl 0 rfl) ?_
  refine lv_iload_n hx hb dL_law_1312 rfl (lv_at hl 3 rfl) ?_
  refine lv_iconst (v := 1) hx hb dL_law_1313 (by decide) ?_
  refine lv_iadd hx hb dL_law_1314 ?_
  refine l_ld A hw (l_in (j := 1) hi A.2.2.2.2.1 (by decide) rfl) dL_law_1315 ?_
  refine lv_aload_n hx hb dL_law_1316 rfl (lv_at hl 0 rfl) ?_
  refine lv_iload_n hx hb dL_law_1317 rfl (lv_at hl 3 rfl) ?_
  refine lv_iconst (v := 2) hx hb dL_law_1318 (by decide) ?_
  refine lv_iadd hx hb dL_law_1319 ?_
  refine l_ld A hw (l_in (j := 2) hi A.2.2.2.2.1 (by decide) rfl) dL_law_1320 ?_
  refine lv_aload_n hx hb dL_law_1321 rfl (lv_at hl 0 rfl) ?_
  refine lv_iload_n hx hb dL_law_1322 rfl (lv_at hl 3 rfl) ?_
  refine lv_iconst (v := 3) hx hb dL_law_1323 (by decide) ?_
  refine lv_iadd hx hb dL_law_1324 ?_
  refine l_ld A hw (l_in (j := 3) hi A.2.2.2.2.1 (by decide) rfl) dL_law_1325 ?_
  refine l_callMI (rest := [.int (r)]) A hw (zX12_row l _ n v (xs (nI i + 1).toNatClampNeg) (xs (nI i + 2).toNatClampNeg) (xs (nI i + 3).toNatClampNeg) (r, v') h2) km_L_169 ki_yX12_row kv_X12_row kz_X12 kc_X12_row rfl ok_yX12_row ⟨Nat.le_of_ble_eq_true rfl, Nat.le_of_ble_eq_true rfl⟩ rfl rfl rfl rfl hl.1 (Nat.le_of_ble_eq_true rfl) dL_law_1326 hf (fun H locs hw => ?_)
  refine lv_icmp_eq (tgt := 1560) hx hb dL_law_1329 (by decide) (fun c1 => kk _ _ _ _ hR' hw) (fun c1 => absurd rfl c1)
set_option maxHeartbeats 4000000 in
theorem law_put {p : Program} {l : Launch} {e : Env} {s : State} {m : MethodId} {below : List Frame} {meth : Method} {c : Code} {H : Heap} {locs : List Loc} {cells slots : Nat} {Q : State → Prop} {ls : Array Slot} {X1 X2 : WX} {u v : St} {b L i n : Nat} {xs : Nat → Int32} {Rel : St → St → Prop} (A : LA X1 X2 p s m meth c b L xs) (hw : W2 X1 X2 s u v H locs) (hl : lv_has ls 4 [(0, .ref b), (1, .ref (xq X1 0)), (2, .ref (xq X2 0)), (3, .int (nI i))]) (hi : i + 6 ≤ L) (hf : cells ≤ room_1.cells ∧ slots ≤ room_1.slots) (B : S_put Rel n) (hR : Rel u v) (kk : ∀ (u' v' : St) (H : Heap) (locs : List Loc), Rel u' v' → W2 X1 X2 s u' v' H locs → W p l e room_1 s m #[Value.ref b] below meth c H locs cells slots Q (F0 m 1560 ls [])) : W p l e room_1 s m #[Value.ref b] below meth c H locs cells slots Q (F0 m 1334 ls []) := by
  obtain ⟨hx, hb, hml, hown, hts⟩ := id A.1
  refine lv_aload_n hx hb dL_law_1334 rfl (lv_at hl 1 rfl) ?_
  refine lv_aload_n hx hb dL_law_1335 rfl (lv_at hl 0 rfl) ?_
  refine lv_iload_n hx hb dL_law_1336 rfl (lv_at hl 3 rfl) ?_
  refine lv_iconst (v := 1) hx hb dL_law_1337 (by decide) ?_
  refine lv_iadd hx hb dL_law_1338 ?_
  refine l_ld A hw (l_in (j := 1) hi A.2.2.2.2.1 (by decide) rfl) dL_law_1339 ?_
  refine lv_aload_n hx hb dL_law_1340 rfl (lv_at hl 0 rfl) ?_
  refine lv_iload_n hx hb dL_law_1341 rfl (lv_at hl 3 rfl) ?_
  refine lv_iconst (v := 2) hx hb dL_law_1342 (by decide) ?_
  refine lv_iadd hx hb dL_law_1343 ?_
  refine l_ld A hw (l_in (j := 2) hi A.2.2.2.2.1 (by decide) rfl) dL_law_1344 ?_
  refine lv_aload_n hx hb dL_law_1345 rfl (lv_at hl 0 rfl) ?_
  refine lv_iload_n hx hb dL_law_1346 rfl (lv_at hl 3 rfl) ?_
  refine lv_iconst (v := 3) hx hb dL_law_1347 (by decide) ?_
  refine lv_iadd hx hb dL_law_1348 ?_
  refine l_ld A hw (l_in (j := 3) hi A.2.2.2.2.1 (by decide) rfl) dL_law_1349 ?_
  refine lv_i2l (v := (xs (nI i + 3).toNatClampNeg).toInt64) hx hb dL_law_1350 rfl ?_
  refine lv_bipush (v := 32) hx hb dL_law_1351 (by decide) ?_
  refine lv_lshl (v := (xs (nI i + 3).toNatClampNeg).toInt64 <<< ((32 : Int32).toInt64 &&& 63)) hx hb dL_law_1353 rfl ?_
  refine lv_aload_n hx hb dL_law_1354 rfl (lv_at hl 0 rfl) ?_
  refine lv_iload_n hx hb dL_law_1355 rfl (lv_at hl 3 rfl) ?_
  refine lv_iconst (v := 4) hx hb dL_law_1356 (by decide) ?_
  refine lv_iadd hx hb dL_law_1357 ?_
  refine l_ld A hw (l_in (j := 4) hi A.2.2.2.2.1 (by decide) rfl) dL_law_1358 ?_
  refine lv_i2l (v := (xs (nI i + 4).toNatClampNeg).toInt64) hx hb dL_law_1359 rfl ?_
  refine lv_ldc2 (v := 4294967295) hx hb hown (hts _ kn_L_170) dL_law_1360 ?_
  refine lv_land hx hb dL_law_1363 ?_
  refine lv_lor hx hb dL_law_1364 ?_
  obtain ⟨r, u', v', h1, h2, hR'⟩ := B u v (xs (nI i + 1).toNatClampNeg) (xs (nI i + 2).toNatClampNeg) (((xs (nI i + 3).toNatClampNeg).toInt64 <<< ((32 : Int32).toInt64 &&& 63)) ||| (((xs (nI i + 4).toNatClampNeg).toInt64) &&& (4294967295))) hR
  refine l_callCI (rest := []) A hw (zX11_put l _ u (xs (nI i + 1).toNatClampNeg) (xs (nI i + 2).toNatClampNeg) (((xs (nI i + 3).toNatClampNeg).toInt64 <<< ((32 : Int32).toInt64 &&& 63)) ||| (((xs (nI i + 4).toNatClampNeg).toInt64) &&& (4294967295))) (r, u') h1) km_L_172 ki_yX11_put kv_X11_put kz_X11 kc_X11_put rfl ok_yX11_put ⟨Nat.le_of_ble_eq_true rfl, Nat.le_of_ble_eq_true rfl⟩ rfl rfl rfl rfl hl.1 (Nat.le_of_ble_eq_true rfl) dL_law_1365 hf (fun H locs hw => ?_)
  refine lv_aload_n hx hb dL_law_1368 rfl (lv_at hl 2 rfl) ?_
  refine lv_aload_n hx hb dL_law_1369 rfl (lv_at hl 0 rfl) ?_
  refine lv_iload_n hx hb dL_law_1370 rfl (lv_at hl 3 rfl) ?_
  refine lv_iconst (v := 1) hx hb dL_law_1371 (by decide) ?_
  refine lv_iadd hx hb dL_law_1372 ?_
  refine l_ld A hw (l_in (j := 1) hi A.2.2.2.2.1 (by decide) rfl) dL_law_1373 ?_
  refine lv_aload_n hx hb dL_law_1374 rfl (lv_at hl 0 rfl) ?_
  refine lv_iload_n hx hb dL_law_1375 rfl (lv_at hl 3 rfl) ?_
  refine lv_iconst (v := 2) hx hb dL_law_1376 (by decide) ?_
  refine lv_iadd hx hb dL_law_1377 ?_
  refine l_ld A hw (l_in (j := 2) hi A.2.2.2.2.1 (by decide) rfl) dL_law_1378 ?_
  refine lv_aload_n hx hb dL_law_1379 rfl (lv_at hl 0 rfl) ?_
  refine lv_iload_n hx hb dL_law_1380 rfl (lv_at hl 3 rfl) ?_
  refine lv_iconst (v := 3) hx hb dL_law_1381 (by decide) ?_
  refine lv_iadd hx hb dL_law_1382 ?_
  refine l_ld A hw (l_in (j := 3) hi A.2.2.2.2.1 (by decide) rfl) dL_law_1383 ?_
  refine lv_i2l (v := (xs (nI i + 3).toNatClampNeg).toInt64) hx hb dL_law_1384 rfl ?_
  refine lv_bipush (v := 32) hx hb dL_law_1385 (by decide) ?_
  refine lv_lshl (v := (xs (nI i + 3).toNatClampNeg).toInt64 <<< ((32 : Int32).toInt64 &&& 63)) hx hb dL_law_1387 rfl ?_
  refine lv_aload_n hx hb dL_law_1388 rfl (lv_at hl 0 rfl) ?_
  refine lv_iload_n hx hb dL_law_1389 rfl (lv_at hl 3 rfl) ?_
  refine lv_iconst (v := 4) hx hb dL_law_1390 (by decide) ?_
  refine lv_iadd hx hb dL_law_1391 ?_
  refine l_ld A hw (l_in (j := 4) hi A.2.2.2.2.1 (by decide) rfl) dL_law_1392 ?_
  refine lv_i2l (v := (xs (nI i + 4).toNatClampNeg).toInt64) hx hb dL_law_1393 rfl ?_
  refine lv_ldc2 (v := 4294967295) hx hb hown (hts _ kn_L_170) dL_law_1394 ?_
  refine lv_land hx hb dL_law_1397 ?_
  refine lv_lor hx hb dL_law_1398 ?_
  refine l_callMI (rest := [.int (r)]) A hw (zX12_put l _ v (xs (nI i + 1).toNatClampNeg) (xs (nI i + 2).toNatClampNeg) (((xs (nI i + 3).toNatClampNeg).toInt64 <<< ((32 : Int32).toInt64 &&& 63)) ||| (((xs (nI i + 4).toNatClampNeg).toInt64) &&& (4294967295))) (r, v') h2) km_L_176 ki_yX12_put kv_X12_put kz_X12 kc_X12_put rfl ok_yX12_put ⟨Nat.le_of_ble_eq_true rfl, Nat.le_of_ble_eq_true rfl⟩ rfl rfl rfl rfl hl.1 (Nat.le_of_ble_eq_true rfl) dL_law_1399 hf (fun H locs hw => ?_)
  refine lv_icmp_eq (tgt := 1560) hx hb dL_law_1402 (by decide) (fun c1 => kk _ _ _ _ hR' hw) (fun c1 => absurd rfl c1)
set_option maxHeartbeats 4000000 in
theorem law_element {p : Program} {l : Launch} {e : Env} {s : State} {m : MethodId} {below : List Frame} {meth : Method} {c : Code} {H : Heap} {locs : List Loc} {cells slots : Nat} {Q : State → Prop} {ls : Array Slot} {X1 X2 : WX} {u v : St} {b L i n : Nat} {xs : Nat → Int32} {Rel : St → St → Prop} (A : LA X1 X2 p s m meth c b L xs) (hw : W2 X1 X2 s u v H locs) (hl : lv_has ls 4 [(0, .ref b), (1, .ref (xq X1 0)), (2, .ref (xq X2 0)), (3, .int (nI i))]) (hi : i + 6 ≤ L) (hf : cells ≤ room_1.cells ∧ slots ≤ room_1.slots) (B : S_element Rel n) (hR : Rel u v) (kk : ∀ (u' v' : St) (H : Heap) (locs : List Loc), Rel u' v' → W2 X1 X2 s u' v' H locs → W p l e room_1 s m #[Value.ref b] below meth c H locs cells slots Q (F0 m 1560 ls [])) : W p l e room_1 s m #[Value.ref b] below meth c H locs cells slots Q (F0 m 1407 ls []) := by
  obtain ⟨hx, hb, hml, hown, hts⟩ := id A.1
  refine lv_aload_n hx hb dL_law_1407 rfl (lv_at hl 1 rfl) ?_
  refine lv_aload_n hx hb dL_law_1408 rfl (lv_at hl 0 rfl) ?_
  refine lv_iload_n hx hb dL_law_1409 rfl (lv_at hl 3 rfl) ?_
  refine lv_iconst (v := 1) hx hb dL_law_1410 (by decide) ?_
  refine lv_iadd hx hb dL_law_1411 ?_
  refine l_ld A hw (l_in (j := 1) hi A.2.2.2.2.1 (by decide) rfl) dL_law_1412 ?_
  refine lv_aload_n hx hb dL_law_1413 rfl (lv_at hl 0 rfl) ?_
  refine lv_iload_n hx hb dL_law_1414 rfl (lv_at hl 3 rfl) ?_
  refine lv_iconst (v := 2) hx hb dL_law_1415 (by decide) ?_
  refine lv_iadd hx hb dL_law_1416 ?_
  refine l_ld A hw (l_in (j := 2) hi A.2.2.2.2.1 (by decide) rfl) dL_law_1417 ?_
  obtain ⟨r, u', v', h1, h2, hR'⟩ := B u v (xs (nI i + 1).toNatClampNeg) (xs (nI i + 2).toNatClampNeg) hR
  obtain ⟨h1, h1e⟩ := h1
  rw [h1e] at hR'
  refine l_callCL (rest := []) A hw (zX11_element l _ u (xs (nI i + 1).toNatClampNeg) (xs (nI i + 2).toNatClampNeg) r h1) km_L_177 ki_yX11_element kv_X11_element kz_X11 kc_X11_element rfl ok_yX11_element ⟨Nat.le_of_ble_eq_true rfl, Nat.le_of_ble_eq_true rfl⟩ rfl rfl rfl rfl hl.1 (Nat.le_of_ble_eq_true rfl) dL_law_1418 hf (fun H locs hw => ?_)
  refine lv_aload_n hx hb dL_law_1421 rfl (lv_at hl 2 rfl) ?_
  refine lv_aload_n hx hb dL_law_1422 rfl (lv_at hl 0 rfl) ?_
  refine lv_iload_n hx hb dL_law_1423 rfl (lv_at hl 3 rfl) ?_
  refine lv_iconst (v := 1) hx hb dL_law_1424 (by decide) ?_
  refine lv_iadd hx hb dL_law_1425 ?_
  refine l_ld A hw (l_in (j := 1) hi A.2.2.2.2.1 (by decide) rfl) dL_law_1426 ?_
  refine lv_aload_n hx hb dL_law_1427 rfl (lv_at hl 0 rfl) ?_
  refine lv_iload_n hx hb dL_law_1428 rfl (lv_at hl 3 rfl) ?_
  refine lv_iconst (v := 2) hx hb dL_law_1429 (by decide) ?_
  refine lv_iadd hx hb dL_law_1430 ?_
  refine l_ld A hw (l_in (j := 2) hi A.2.2.2.2.1 (by decide) rfl) dL_law_1431 ?_
  obtain ⟨h2, h2e⟩ := h2
  rw [h2e] at hR'
  refine l_callML (rest := [.long (r)]) A hw (zX12_element l _ v (xs (nI i + 1).toNatClampNeg) (xs (nI i + 2).toNatClampNeg) r h2) km_L_181 ki_yX12_element kv_X12_element kz_X12 kc_X12_element rfl ok_yX12_element ⟨Nat.le_of_ble_eq_true rfl, Nat.le_of_ble_eq_true rfl⟩ rfl rfl rfl rfl hl.1 (Nat.le_of_ble_eq_true rfl) dL_law_1432 hf (fun H locs hw => ?_)
  refine W.lcmp hx hb dL_law_1435 ?_
  refine lv_if_eq (tgt := 1560) hx hb dL_law_1436 (by decide) (fun c1 => kk _ _ _ _ hR' hw) (fun c1 => absurd (lg_cmp_self r) c1)
set_option maxHeartbeats 4000000 in
theorem law_shift {p : Program} {l : Launch} {e : Env} {s : State} {m : MethodId} {below : List Frame} {meth : Method} {c : Code} {H : Heap} {locs : List Loc} {cells slots : Nat} {Q : State → Prop} {ls : Array Slot} {X1 X2 : WX} {u v : St} {b L i n : Nat} {xs : Nat → Int32} {Rel : St → St → Prop} (A : LA X1 X2 p s m meth c b L xs) (hw : W2 X1 X2 s u v H locs) (hl : lv_has ls 4 [(0, .ref b), (1, .ref (xq X1 0)), (2, .ref (xq X2 0)), (3, .int (nI i))]) (hi : i + 6 ≤ L) (hf : cells ≤ room_1.cells ∧ slots ≤ room_1.slots) (B : S_shift Rel n) (hR : Rel u v) (kk : ∀ (u' v' : St) (H : Heap) (locs : List Loc), Rel u' v' → W2 X1 X2 s u' v' H locs → W p l e room_1 s m #[Value.ref b] below meth c H locs cells slots Q (F0 m 1560 ls [])) : W p l e room_1 s m #[Value.ref b] below meth c H locs cells slots Q (F0 m 1441 ls []) := by
  obtain ⟨hx, hb, hml, hown, hts⟩ := id A.1
  refine lv_aload_n hx hb dL_law_1441 rfl (lv_at hl 1 rfl) ?_
  refine lv_aload_n hx hb dL_law_1442 rfl (lv_at hl 0 rfl) ?_
  refine lv_iload_n hx hb dL_law_1443 rfl (lv_at hl 3 rfl) ?_
  refine lv_iconst (v := 1) hx hb dL_law_1444 (by decide) ?_
  refine lv_iadd hx hb dL_law_1445 ?_
  refine l_ld A hw (l_in (j := 1) hi A.2.2.2.2.1 (by decide) rfl) dL_law_1446 ?_
  refine lv_aload_n hx hb dL_law_1447 rfl (lv_at hl 0 rfl) ?_
  refine lv_iload_n hx hb dL_law_1448 rfl (lv_at hl 3 rfl) ?_
  refine lv_iconst (v := 2) hx hb dL_law_1449 (by decide) ?_
  refine lv_iadd hx hb dL_law_1450 ?_
  refine l_ld A hw (l_in (j := 2) hi A.2.2.2.2.1 (by decide) rfl) dL_law_1451 ?_
  refine lv_aload_n hx hb dL_law_1452 rfl (lv_at hl 0 rfl) ?_
  refine lv_iload_n hx hb dL_law_1453 rfl (lv_at hl 3 rfl) ?_
  refine lv_iconst (v := 3) hx hb dL_law_1454 (by decide) ?_
  refine lv_iadd hx hb dL_law_1455 ?_
  refine l_ld A hw (l_in (j := 3) hi A.2.2.2.2.1 (by decide) rfl) dL_law_1456 ?_
  refine lv_aload_n hx hb dL_law_1457 rfl (lv_at hl 0 rfl) ?_
  refine lv_iload_n hx hb dL_law_1458 rfl (lv_at hl 3 rfl) ?_
  refine lv_iconst (v := 4) hx hb dL_law_1459 (by decide) ?_
  refine lv_iadd hx hb dL_law_1460 ?_
  refine l_ld A hw (l_in (j := 4) hi A.2.2.2.2.1 (by decide) rfl) dL_law_1461 ?_
  refine lv_aload_n hx hb dL_law_1462 rfl (lv_at hl 0 rfl) ?_
  refine lv_iload_n hx hb dL_law_1463 rfl (lv_at hl 3 rfl) ?_
  refine lv_iconst (v := 5) hx hb dL_law_1464 (by decide) ?_
  refine lv_iadd hx hb dL_law_1465 ?_
  refine l_ld A hw (l_in (j := 5) hi A.2.2.2.2.1 (by decide) rfl) dL_law_1466 ?_
  obtain ⟨r, u', v', h1, h2, hR'⟩ := B u v (xs (nI i + 1).toNatClampNeg) (xs (nI i + 2).toNatClampNeg) (xs (nI i + 3).toNatClampNeg) (xs (nI i + 4).toNatClampNeg) (xs (nI i + 5).toNatClampNeg) hR
  refine l_callCI (rest := []) A hw (zX11_shift l _ u (xs (nI i + 1).toNatClampNeg) (xs (nI i + 2).toNatClampNeg) (xs (nI i + 3).toNatClampNeg) (xs (nI i + 4).toNatClampNeg) (xs (nI i + 5).toNatClampNeg) (r, u') h1) km_L_182 ki_yX11_shift kv_X11_shift kz_X11 kc_X11_shift rfl ok_yX11_shift ⟨Nat.le_of_ble_eq_true rfl, Nat.le_of_ble_eq_true rfl⟩ rfl rfl rfl rfl hl.1 (Nat.le_of_ble_eq_true rfl) dL_law_1467 hf (fun H locs hw => ?_)
  refine lv_aload_n hx hb dL_law_1470 rfl (lv_at hl 2 rfl) ?_
  refine lv_aload_n hx hb dL_law_1471 rfl (lv_at hl 0 rfl) ?_
  refine lv_iload_n hx hb dL_law_1472 rfl (lv_at hl 3 rfl) ?_
  refine lv_iconst (v := 1) hx hb dL_law_1473 (by decide) ?_
  refine lv_iadd hx hb dL_law_1474 ?_
  refine l_ld A hw (l_in (j := 1) hi A.2.2.2.2.1 (by decide) rfl) dL_law_1475 ?_
  refine lv_aload_n hx hb dL_law_1476 rfl (lv_at hl 0 rfl) ?_
  refine lv_iload_n hx hb dL_law_1477 rfl (lv_at hl 3 rfl) ?_
  refine lv_iconst (v := 2) hx hb dL_law_1478 (by decide) ?_
  refine lv_iadd hx hb dL_law_1479 ?_
  refine l_ld A hw (l_in (j := 2) hi A.2.2.2.2.1 (by decide) rfl) dL_law_1480 ?_
  refine lv_aload_n hx hb dL_law_1481 rfl (lv_at hl 0 rfl) ?_
  refine lv_iload_n hx hb dL_law_1482 rfl (lv_at hl 3 rfl) ?_
  refine lv_iconst (v := 3) hx hb dL_law_1483 (by decide) ?_
  refine lv_iadd hx hb dL_law_1484 ?_
  refine l_ld A hw (l_in (j := 3) hi A.2.2.2.2.1 (by decide) rfl) dL_law_1485 ?_
  refine lv_aload_n hx hb dL_law_1486 rfl (lv_at hl 0 rfl) ?_
  refine lv_iload_n hx hb dL_law_1487 rfl (lv_at hl 3 rfl) ?_
  refine lv_iconst (v := 4) hx hb dL_law_1488 (by decide) ?_
  refine lv_iadd hx hb dL_law_1489 ?_
  refine l_ld A hw (l_in (j := 4) hi A.2.2.2.2.1 (by decide) rfl) dL_law_1490 ?_
  refine lv_aload_n hx hb dL_law_1491 rfl (lv_at hl 0 rfl) ?_
  refine lv_iload_n hx hb dL_law_1492 rfl (lv_at hl 3 rfl) ?_
  refine lv_iconst (v := 5) hx hb dL_law_1493 (by decide) ?_
  refine lv_iadd hx hb dL_law_1494 ?_
  refine l_ld A hw (l_in (j := 5) hi A.2.2.2.2.1 (by decide) rfl) dL_law_1495 ?_
  refine l_callMI (rest := [.int (r)]) A hw (zX12_shift l _ n v (xs (nI i + 1).toNatClampNeg) (xs (nI i + 2).toNatClampNeg) (xs (nI i + 3).toNatClampNeg) (xs (nI i + 4).toNatClampNeg) (xs (nI i + 5).toNatClampNeg) (r, v') h2) km_L_186 ki_yX12_shift kv_X12_shift kz_X12 kc_X12_shift rfl ok_yX12_shift ⟨Nat.le_of_ble_eq_true rfl, Nat.le_of_ble_eq_true rfl⟩ rfl rfl rfl rfl hl.1 (Nat.le_of_ble_eq_true rfl) dL_law_1496 hf (fun H locs hw => ?_)
  refine lv_icmp_eq (tgt := 1560) hx hb dL_law_1499 (by decide) (fun c1 => kk _ _ _ _ hR' hw) (fun c1 => absurd rfl c1)
set_option maxHeartbeats 4000000 in
theorem law_taken {p : Program} {l : Launch} {e : Env} {s : State} {m : MethodId} {below : List Frame} {meth : Method} {c : Code} {H : Heap} {locs : List Loc} {cells slots : Nat} {Q : State → Prop} {ls : Array Slot} {X1 X2 : WX} {u v : St} {b L i n : Nat} {xs : Nat → Int32} {Rel : St → St → Prop} (A : LA X1 X2 p s m meth c b L xs) (hw : W2 X1 X2 s u v H locs) (hl : lv_has ls 4 [(0, .ref b), (1, .ref (xq X1 0)), (2, .ref (xq X2 0)), (3, .int (nI i))]) (hi : i + 6 ≤ L) (hf : cells ≤ room_1.cells ∧ slots ≤ room_1.slots) (B : S_taken Rel n) (hR : Rel u v) (kk : ∀ (u' v' : St) (H : Heap) (locs : List Loc), Rel u' v' → W2 X1 X2 s u' v' H locs → W p l e room_1 s m #[Value.ref b] below meth c H locs cells slots Q (F0 m 1560 ls [])) : W p l e room_1 s m #[Value.ref b] below meth c H locs cells slots Q (F0 m 1504 ls []) := by
  obtain ⟨hx, hb, hml, hown, hts⟩ := id A.1
  refine lv_aload_n hx hb dL_law_1504 rfl (lv_at hl 1 rfl) ?_
  refine lv_aload_n hx hb dL_law_1505 rfl (lv_at hl 0 rfl) ?_
  refine lv_iload_n hx hb dL_law_1506 rfl (lv_at hl 3 rfl) ?_
  refine lv_iconst (v := 1) hx hb dL_law_1507 (by decide) ?_
  refine lv_iadd hx hb dL_law_1508 ?_
  refine l_ld A hw (l_in (j := 1) hi A.2.2.2.2.1 (by decide) rfl) dL_law_1509 ?_
  refine lv_aload_n hx hb dL_law_1510 rfl (lv_at hl 0 rfl) ?_
  refine lv_iload_n hx hb dL_law_1511 rfl (lv_at hl 3 rfl) ?_
  refine lv_iconst (v := 2) hx hb dL_law_1512 (by decide) ?_
  refine lv_iadd hx hb dL_law_1513 ?_
  refine l_ld A hw (l_in (j := 2) hi A.2.2.2.2.1 (by decide) rfl) dL_law_1514 ?_
  obtain ⟨r, u', v', h1, h2, hR'⟩ := B u v (xs (nI i + 1).toNatClampNeg) (xs (nI i + 2).toNatClampNeg) hR
  obtain ⟨h1, h1e⟩ := h1
  rw [h1e] at hR'
  refine l_callCI (rest := []) A hw (zX11_taken l _ n u (xs (nI i + 1).toNatClampNeg) (xs (nI i + 2).toNatClampNeg) r h1) km_L_187 ki_yX11_taken kv_X11_taken kz_X11 kc_X11_taken rfl ok_yX11_taken ⟨Nat.le_of_ble_eq_true rfl, Nat.le_of_ble_eq_true rfl⟩ rfl rfl rfl rfl hl.1 (Nat.le_of_ble_eq_true rfl) dL_law_1515 hf (fun H locs hw => ?_)
  refine lv_aload_n hx hb dL_law_1518 rfl (lv_at hl 2 rfl) ?_
  refine lv_aload_n hx hb dL_law_1519 rfl (lv_at hl 0 rfl) ?_
  refine lv_iload_n hx hb dL_law_1520 rfl (lv_at hl 3 rfl) ?_
  refine lv_iconst (v := 1) hx hb dL_law_1521 (by decide) ?_
  refine lv_iadd hx hb dL_law_1522 ?_
  refine l_ld A hw (l_in (j := 1) hi A.2.2.2.2.1 (by decide) rfl) dL_law_1523 ?_
  refine lv_aload_n hx hb dL_law_1524 rfl (lv_at hl 0 rfl) ?_
  refine lv_iload_n hx hb dL_law_1525 rfl (lv_at hl 3 rfl) ?_
  refine lv_iconst (v := 2) hx hb dL_law_1526 (by decide) ?_
  refine lv_iadd hx hb dL_law_1527 ?_
  refine l_ld A hw (l_in (j := 2) hi A.2.2.2.2.1 (by decide) rfl) dL_law_1528 ?_
  obtain ⟨h2, h2e⟩ := h2
  rw [h2e] at hR'
  refine l_callMI (rest := [.int (r)]) A hw (zX12_taken l _ v (xs (nI i + 1).toNatClampNeg) (xs (nI i + 2).toNatClampNeg) r h2) km_L_190 ki_yX12_taken kv_X12_taken kz_X12 kc_X12_taken rfl ok_yX12_taken ⟨Nat.le_of_ble_eq_true rfl, Nat.le_of_ble_eq_true rfl⟩ rfl rfl rfl rfl hl.1 (Nat.le_of_ble_eq_true rfl) dL_law_1529 hf (fun H locs hw => ?_)
  refine lv_icmp_eq (tgt := 1560) hx hb dL_law_1532 (by decide) (fun c1 => kk _ _ _ _ hR' hw) (fun c1 => absurd rfl c1)
set_option maxHeartbeats 4000000 in
theorem law_count {p : Program} {l : Launch} {e : Env} {s : State} {m : MethodId} {below : List Frame} {meth : Method} {c : Code} {H : Heap} {locs : List Loc} {cells slots : Nat} {Q : State → Prop} {ls : Array Slot} {X1 X2 : WX} {u v : St} {b L i n : Nat} {xs : Nat → Int32} {Rel : St → St → Prop} (A : LA X1 X2 p s m meth c b L xs) (hw : W2 X1 X2 s u v H locs) (hl : lv_has ls 4 [(0, .ref b), (1, .ref (xq X1 0)), (2, .ref (xq X2 0)), (3, .int (nI i))]) (hi : i + 6 ≤ L) (hf : cells ≤ room_1.cells ∧ slots ≤ room_1.slots) (B : S_count Rel n) (hR : Rel u v) (kk : ∀ (u' v' : St) (H : Heap) (locs : List Loc), Rel u' v' → W2 X1 X2 s u' v' H locs → W p l e room_1 s m #[Value.ref b] below meth c H locs cells slots Q (F0 m 1560 ls [])) : W p l e room_1 s m #[Value.ref b] below meth c H locs cells slots Q (F0 m 1537 ls []) := by
  obtain ⟨hx, hb, hml, hown, hts⟩ := id A.1
  refine lv_aload_n hx hb dL_law_1537 rfl (lv_at hl 1 rfl) ?_
  refine lv_aload_n hx hb dL_law_1538 rfl (lv_at hl 0 rfl) ?_
  refine lv_iload_n hx hb dL_law_1539 rfl (lv_at hl 3 rfl) ?_
  refine lv_iconst (v := 1) hx hb dL_law_1540 (by decide) ?_
  refine lv_iadd hx hb dL_law_1541 ?_
  refine l_ld A hw (l_in (j := 1) hi A.2.2.2.2.1 (by decide) rfl) dL_law_1542 ?_
  obtain ⟨r, u', v', h1, h2, hR'⟩ := B u v (xs (nI i + 1).toNatClampNeg) hR
  obtain ⟨h1, h1e⟩ := h1
  rw [h1e] at hR'
  refine l_callCI (rest := []) A hw (by have z9 := zX11_count l X1 u (xs (nI i + 1).toNatClampNeg); rw [h1] at z9; exact z9) km_L_191 ki_yX11_count kv_X11_count kz_X11 kc_X11_count rfl ok_yX11_count ⟨Nat.le_of_ble_eq_true rfl, Nat.le_of_ble_eq_true rfl⟩ rfl rfl rfl rfl hl.1 (Nat.le_of_ble_eq_true rfl) dL_law_1543 hf (fun H locs hw => ?_)
  refine lv_aload_n hx hb dL_law_1546 rfl (lv_at hl 2 rfl) ?_
  refine lv_aload_n hx hb dL_law_1547 rfl (lv_at hl 0 rfl) ?_
  refine lv_iload_n hx hb dL_law_1548 rfl (lv_at hl 3 rfl) ?_
  refine lv_iconst (v := 1) hx hb dL_law_1549 (by decide) ?_
  refine lv_iadd hx hb dL_law_1550 ?_
  refine l_ld A hw (l_in (j := 1) hi A.2.2.2.2.1 (by decide) rfl) dL_law_1551 ?_
  obtain ⟨h2, h2e⟩ := h2
  rw [h2e] at hR'
  refine l_callMI (rest := [.int (r)]) A hw (by have z9 := zX12_count l X2 v (xs (nI i + 1).toNatClampNeg); rw [h2] at z9; exact z9) km_L_194 ki_yX12_count kv_X12_count kz_X12 kc_X12_count rfl ok_yX12_count ⟨Nat.le_of_ble_eq_true rfl, Nat.le_of_ble_eq_true rfl⟩ rfl rfl rfl rfl hl.1 (Nat.le_of_ble_eq_true rfl) dL_law_1552 hf (fun H locs hw => ?_)
  refine lv_icmp_eq (tgt := 1560) hx hb dL_law_1555 (by decide) (fun c1 => kk _ _ _ _ hR' hw) (fun c1 => absurd rfl c1)
theorem l_go {i L : Nat} (hL : L ≤ 3072) (hi : i ≤ 3072) (h : ¬ nI L - 6 < nI i) : i + 6 ≤ L := by
  have e : (nI L - nI 6).toInt = (L : Int) - 6 := pk_sub_toInt (by omega) (by omega)
  have e2 : (nI i).toInt = (i : Int) := nI_toInt (by omega)
  have h2 : ¬ (nI L - nI 6).toInt < (nI i).toInt := fun q => h (Int32.lt_iff_toInt_lt.mpr q)
  rw [e, e2] at h2
  omega
theorem l_end {i L : Nat} (hL : L ≤ 3072) (hi : i ≤ 3072) (h : ¬ i + 6 ≤ L) : nI L - 6 < nI i := by
  have e : (nI L - nI 6).toInt = (L : Int) - 6 := pk_sub_toInt (by omega) (by omega)
  have e2 : (nI i).toInt = (i : Int) := nI_toInt (by omega)
  refine Int32.lt_iff_toInt_lt.mpr ?_
  show (nI L - nI 6).toInt < (nI i).toInt
  rw [e, e2]
  omega
/-- the steps, all of them -/
def Steps2 (Rel : St → St → Prop) (n : Nat) : Prop := S_field Rel n ∧ S_fall Rel n ∧ S_falls Rel n ∧ S_cry Rel n ∧ S_mend Rel n ∧ S_of Rel n ∧ S_feed Rel n ∧ S_law Rel n ∧ S_counts Rel n ∧ S_at Rel n ∧ S_whose Rel n ∧ S_owed Rel n ∧ S_who Rel n ∧ S_hedge Rel n ∧ S_later Rel n ∧ S_louder Rel n ∧ S_bestCry Rel n ∧ S_buy Rel n ∧ S_sellOff Rel n ∧ S_cleared Rel n ∧ S_sight Rel n ∧ S_ears Rel n ∧ S_judge Rel n ∧ S_whoseCry Rel n ∧ S_drawn Rel n ∧ S_find Rel n ∧ S_pay Rel n ∧ S_give Rel n ∧ S_led Rel n ∧ S_image Rel n ∧ S_back Rel n ∧ S_undo Rel n ∧ S_redo Rel n ∧ S_body Rel n ∧ S_act Rel n ∧ S_trace Rel n ∧ S_keep Rel n ∧ S_row Rel n ∧ S_put Rel n ∧ S_element Rel n ∧ S_shift Rel n ∧ S_taken Rel n ∧ S_count Rel n
set_option maxHeartbeats 8000000 in
set_option maxRecDepth 100000 in
theorem law_loop {p : Program} {l : Launch} {e : Env} {s : State} {m : MethodId} {below : List Frame} {meth : Method} {c : Code} {cells slots : Nat} {X1 X2 : WX} {b L n : Nat} {xs : Nat → Int32} {Rel : St → St → Prop} (A : LA X1 X2 p s m meth c b L xs) (hf : cells ≤ room_1.cells ∧ slots ≤ room_1.slots) (B : Steps2 Rel n) :
    ∀ (k i : Nat) (u v : St) (H : Heap) (locs : List Loc) (ls : Array Slot), L + 1 ≤ i + k → i ≤ 3072 → Rel u v → W2 X1 X2 s u v H locs → lv_has ls 4 [(0, .ref b), (1, .ref (xq X1 0)), (2, .ref (xq X2 0)), (3, .int (nI i))] → W p l e room_1 s m #[Value.ref b] below meth c H locs cells slots (lw_Z below #[Value.ref b] s) (F0 m 18 ls []) := by
  obtain ⟨hx, hb, hml, hown, hts⟩ := id A.1
  obtain ⟨B_field, B_fall, B_falls, B_cry, B_mend, B_of, B_feed, B_law, B_counts, B_at, B_whose, B_owed, B_who, B_hedge, B_later, B_louder, B_bestCry, B_buy, B_sellOff, B_cleared, B_sight, B_ears, B_judge, B_whoseCry, B_drawn, B_find, B_pay, B_give, B_led, B_image, B_back, B_undo, B_redo, B_body, B_act, B_trace, B_keep, B_row, B_put, B_element, B_shift, B_taken, B_count⟩ := B
  intro k
  induction k with
  | zero =>
    intro i u v H locs ls h1 h2 hR hw hl
    refine lv_iload_n hx hb dL_law_18 rfl (lv_at hl 3 rfl) ?_
    refine lv_aload_n hx hb dL_law_19 rfl (lv_at hl 0 rfl) ?_
    refine va_slen hx hb A.2.2.1 A.2.2.2.1 (Nat.not_le.mpr A.2.2.2.1) hw.2.2 dL_law_20 ?_
    refine lv_bipush (v := 6) hx hb dL_law_21 (by decide) ?_
    refine lv_isub hx hb dL_law_23 ?_
    refine lv_icmp_gt (tgt := 1566) hx hb dL_law_24 (by decide) (fun c1 => ?_) (fun c1 => absurd (l_end A.2.2.2.2.1 h2 (by omega)) c1)
    refine lv_iconst (v := 1) hx hb dL_law_1566 (by decide) ?_
    refine va_forget (fun q hq => hw.2.2.2.2 q hq) ?_
    refine W.widen (k := 600000) (n := 7302250) hf.1 hf.2 ?_
    exact lw_ret hx hb A.2.2.2.2.2.1 A.2.2.2.2.2.2 dL_law_1567
  | succ k ih =>
    intro i u v H locs ls h1 h2 hR hw hl
    refine lv_iload_n hx hb dL_law_18 rfl (lv_at hl 3 rfl) ?_
    refine lv_aload_n hx hb dL_law_19 rfl (lv_at hl 0 rfl) ?_
    refine va_slen hx hb A.2.2.1 A.2.2.2.1 (Nat.not_le.mpr A.2.2.2.1) hw.2.2 dL_law_20 ?_
    refine lv_bipush (v := 6) hx hb dL_law_21 (by decide) ?_
    refine lv_isub hx hb dL_law_23 ?_
    refine lv_icmp_gt (tgt := 1566) hx hb dL_law_24 (by decide) (fun c1 => ?_) (fun c1 => ?_)
    · refine lv_iconst (v := 1) hx hb dL_law_1566 (by decide) ?_
      refine va_forget (fun q hq => hw.2.2.2.2 q hq) ?_
      refine W.widen (k := 600000) (n := 7302250) hf.1 hf.2 ?_
      exact lw_ret hx hb A.2.2.2.2.2.1 A.2.2.2.2.2.2 dL_law_1567
    · have hi : i + 6 ≤ L := l_go A.2.2.2.2.1 h2 c1
      have hL := A.2.2.2.2.1
      have kk : ∀ (u' v' : St) (H : Heap) (locs : List Loc), Rel u' v' → W2 X1 X2 s u' v' H locs → W p l e room_1 s m #[Value.ref b] below meth c H locs cells slots (lw_Z below #[Value.ref b] s) (F0 m 1560 ls []) := by
        intro u' v' H locs hR hw
        refine lv_iinc (v := nI (i + 6)) (lv' := [(3, .int (nI (i + 6))), (0, .ref b), (1, .ref (xq X1 0)), (2, .ref (xq X2 0))]) hx hb dL_law_1560 hl (k := 3) rfl (nI_add i 6) (by decide) rfl (fun ls hl => ?_)
        refine lv_goto (tgt := 18) hx hb dL_law_1563 (by decide) ?_
        exact ih (i + 6) u' v' _ _ _ (by omega) (by omega) hR hw (lv_sub hl [1, 2, 3, 0] rfl)
      refine lv_aload_n hx hb dL_law_27 rfl (lv_at hl 0 rfl) ?_
      refine lv_iload_n hx hb dL_law_28 rfl (lv_at hl 3 rfl) ?_
      refine l_ld A hw (vp_in_nI (by omega) (by omega)) dL_law_29 ?_
      refine lv_bipush (v := 63) hx hb dL_law_30 (by decide) ?_
      refine lv_iand hx hb dL_law_32 ?_
      refine lv_topi (fun x ex => ?_)
      by_cases c0x : x = 0
      · refine lv_tableIn (tgt := 220) hx hb dL_law_33 (by rw [c0x]; decide) (by rw [c0x]; decide) (by rw [c0x]; rfl) (by decide) ?_
        exact law_field A hw hl hi hf B_field hR kk
      by_cases c1x : x = 1
      · refine lv_tableIn (tgt := 253) hx hb dL_law_33 (by rw [c1x]; decide) (by rw [c1x]; decide) (by rw [c1x]; rfl) (by decide) ?_
        exact law_fall A hw hl hi hf B_fall hR kk
      by_cases c2x : x = 2
      · refine lv_tableIn (tgt := 286) hx hb dL_law_33 (by rw [c2x]; decide) (by rw [c2x]; decide) (by rw [c2x]; rfl) (by decide) ?_
        exact law_falls A hw hl hi hf B_falls hR kk
      by_cases c3x : x = 3
      · refine lv_tableIn (tgt := 329) hx hb dL_law_33 (by rw [c3x]; decide) (by rw [c3x]; decide) (by rw [c3x]; rfl) (by decide) ?_
        exact law_cry A hw hl hi hf B_cry hR kk
      by_cases c4x : x = 4
      · refine lv_tableIn (tgt := 362) hx hb dL_law_33 (by rw [c4x]; decide) (by rw [c4x]; decide) (by rw [c4x]; rfl) (by decide) ?_
        exact law_mend A hw hl hi hf B_mend hR kk
      by_cases c5x : x = 5
      · refine lv_tableIn (tgt := 405) hx hb dL_law_33 (by rw [c5x]; decide) (by rw [c5x]; decide) (by rw [c5x]; rfl) (by decide) ?_
        exact law_of A hw hl hi hf B_of hR kk
      by_cases c6x : x = 6
      · refine lv_tableIn (tgt := 438) hx hb dL_law_33 (by rw [c6x]; decide) (by rw [c6x]; decide) (by rw [c6x]; rfl) (by decide) ?_
        exact law_feed A hw hl hi hf B_feed hR kk
      by_cases c7x : x = 7
      · refine lv_tableIn (tgt := 461) hx hb dL_law_33 (by rw [c7x]; decide) (by rw [c7x]; decide) (by rw [c7x]; rfl) (by decide) ?_
        exact law_law A hw hl hi hf B_law hR kk
      by_cases c8x : x = 8
      · refine lv_tableIn (tgt := 474) hx hb dL_law_33 (by rw [c8x]; decide) (by rw [c8x]; decide) (by rw [c8x]; rfl) (by decide) ?_
        exact law_counts A hw hl hi hf B_counts hR kk
      by_cases c9x : x = 9
      · refine lv_tableIn (tgt := 497) hx hb dL_law_33 (by rw [c9x]; decide) (by rw [c9x]; decide) (by rw [c9x]; rfl) (by decide) ?_
        exact law_at A hw hl hi hf B_at hR kk
      by_cases c10x : x = 10
      · refine lv_tableIn (tgt := 520) hx hb dL_law_33 (by rw [c10x]; decide) (by rw [c10x]; decide) (by rw [c10x]; rfl) (by decide) ?_
        exact law_whose A hw hl hi hf B_whose hR kk
      by_cases c11x : x = 11
      · refine lv_tableIn (tgt := 553) hx hb dL_law_33 (by rw [c11x]; decide) (by rw [c11x]; decide) (by rw [c11x]; rfl) (by decide) ?_
        exact law_owed A hw hl hi hf B_owed hR kk
      by_cases c12x : x = 12
      · refine lv_tableIn (tgt := 576) hx hb dL_law_33 (by rw [c12x]; decide) (by rw [c12x]; decide) (by rw [c12x]; rfl) (by decide) ?_
        exact law_who A hw hl hi hf B_who hR kk
      by_cases c13x : x = 13
      · refine lv_tableIn (tgt := 599) hx hb dL_law_33 (by rw [c13x]; decide) (by rw [c13x]; decide) (by rw [c13x]; rfl) (by decide) ?_
        exact law_hedge A hw hl hi hf B_hedge hR kk
      by_cases c14x : x = 14
      · refine lv_tableIn (tgt := 632) hx hb dL_law_33 (by rw [c14x]; decide) (by rw [c14x]; decide) (by rw [c14x]; rfl) (by decide) ?_
        exact law_later A hw hl hi hf B_later hR kk
      by_cases c15x : x = 15
      · refine lv_tableIn (tgt := 655) hx hb dL_law_33 (by rw [c15x]; decide) (by rw [c15x]; decide) (by rw [c15x]; rfl) (by decide) ?_
        exact law_louder A hw hl hi hf B_louder hR kk
      by_cases c16x : x = 16
      · refine lv_tableIn (tgt := 678) hx hb dL_law_33 (by rw [c16x]; decide) (by rw [c16x]; decide) (by rw [c16x]; rfl) (by decide) ?_
        exact law_bestCry A hw hl hi hf B_bestCry hR kk
      by_cases c17x : x = 17
      · refine lv_tableIn (tgt := 711) hx hb dL_law_33 (by rw [c17x]; decide) (by rw [c17x]; decide) (by rw [c17x]; rfl) (by decide) ?_
        exact law_buy A hw hl hi hf B_buy hR kk
      by_cases c18x : x = 18
      · refine lv_tableIn (tgt := 754) hx hb dL_law_33 (by rw [c18x]; decide) (by rw [c18x]; decide) (by rw [c18x]; rfl) (by decide) ?_
        exact law_sellOff A hw hl hi hf B_sellOff hR kk
      by_cases c19x : x = 19
      · refine lv_tableIn (tgt := 787) hx hb dL_law_33 (by rw [c19x]; decide) (by rw [c19x]; decide) (by rw [c19x]; rfl) (by decide) ?_
        exact law_cleared A hw hl hi hf B_cleared hR kk
      by_cases c20x : x = 20
      · refine lv_tableIn (tgt := 820) hx hb dL_law_33 (by rw [c20x]; decide) (by rw [c20x]; decide) (by rw [c20x]; rfl) (by decide) ?_
        exact law_sight A hw hl hi hf B_sight hR kk
      by_cases c21x : x = 21
      · refine lv_tableIn (tgt := 853) hx hb dL_law_33 (by rw [c21x]; decide) (by rw [c21x]; decide) (by rw [c21x]; rfl) (by decide) ?_
        exact law_ears A hw hl hi hf B_ears hR kk
      by_cases c22x : x = 22
      · refine lv_tableIn (tgt := 886) hx hb dL_law_33 (by rw [c22x]; decide) (by rw [c22x]; decide) (by rw [c22x]; rfl) (by decide) ?_
        exact law_judge A hw hl hi hf B_judge hR kk
      by_cases c23x : x = 23
      · refine lv_tableIn (tgt := 909) hx hb dL_law_33 (by rw [c23x]; decide) (by rw [c23x]; decide) (by rw [c23x]; rfl) (by decide) ?_
        exact law_whoseCry A hw hl hi hf B_whoseCry hR kk
      by_cases c24x : x = 24
      · refine lv_tableIn (tgt := 952) hx hb dL_law_33 (by rw [c24x]; decide) (by rw [c24x]; decide) (by rw [c24x]; rfl) (by decide) ?_
        exact law_drawn A hw hl hi hf B_drawn hR kk
      by_cases c25x : x = 25
      · refine lv_tableIn (tgt := 1005) hx hb dL_law_33 (by rw [c25x]; decide) (by rw [c25x]; decide) (by rw [c25x]; rfl) (by decide) ?_
        exact law_find A hw hl hi hf B_find hR kk
      by_cases c26x : x = 26
      · refine lv_tableIn (tgt := 1028) hx hb dL_law_33 (by rw [c26x]; decide) (by rw [c26x]; decide) (by rw [c26x]; rfl) (by decide) ?_
        exact law_pay A hw hl hi hf B_pay hR kk
      by_cases c27x : x = 27
      · refine lv_tableIn (tgt := 1061) hx hb dL_law_33 (by rw [c27x]; decide) (by rw [c27x]; decide) (by rw [c27x]; rfl) (by decide) ?_
        exact law_give A hw hl hi hf B_give hR kk
      by_cases c28x : x = 28
      · refine lv_tableIn (tgt := 1094) hx hb dL_law_33 (by rw [c28x]; decide) (by rw [c28x]; decide) (by rw [c28x]; rfl) (by decide) ?_
        exact law_led A hw hl hi hf B_led hR kk
      by_cases c29x : x = 29
      · refine lv_tableIn (tgt := 1117) hx hb dL_law_33 (by rw [c29x]; decide) (by rw [c29x]; decide) (by rw [c29x]; rfl) (by decide) ?_
        exact law_image A hw hl hi hf B_image hR kk
      by_cases c30x : x = 30
      · refine lv_tableIn (tgt := 1130) hx hb dL_law_33 (by rw [c30x]; decide) (by rw [c30x]; decide) (by rw [c30x]; rfl) (by decide) ?_
        exact law_back A hw hl hi hf B_back hR kk
      by_cases c31x : x = 31
      · refine lv_tableIn (tgt := 1143) hx hb dL_law_33 (by rw [c31x]; decide) (by rw [c31x]; decide) (by rw [c31x]; rfl) (by decide) ?_
        exact law_undo A hw hl hi hf B_undo hR kk
      by_cases c32x : x = 32
      · refine lv_tableIn (tgt := 1156) hx hb dL_law_33 (by rw [c32x]; decide) (by rw [c32x]; decide) (by rw [c32x]; rfl) (by decide) ?_
        exact law_redo A hw hl hi hf B_redo hR kk
      by_cases c33x : x = 33
      · refine lv_tableIn (tgt := 1169) hx hb dL_law_33 (by rw [c33x]; decide) (by rw [c33x]; decide) (by rw [c33x]; rfl) (by decide) ?_
        exact law_body A hw hl hi hf B_body hR kk
      by_cases c34x : x = 34
      · refine lv_tableIn (tgt := 1192) hx hb dL_law_33 (by rw [c34x]; decide) (by rw [c34x]; decide) (by rw [c34x]; rfl) (by decide) ?_
        exact law_act A hw hl hi hf B_act hR kk
      by_cases c35x : x = 35
      · refine lv_tableIn (tgt := 1235) hx hb dL_law_33 (by rw [c35x]; decide) (by rw [c35x]; decide) (by rw [c35x]; rfl) (by decide) ?_
        exact law_trace A hw hl hi hf B_trace hR kk
      by_cases c36x : x = 36
      · refine lv_tableIn (tgt := 1258) hx hb dL_law_33 (by rw [c36x]; decide) (by rw [c36x]; decide) (by rw [c36x]; rfl) (by decide) ?_
        exact law_keep A hw hl hi hf B_keep hR kk
      by_cases c37x : x = 37
      · refine lv_tableIn (tgt := 1291) hx hb dL_law_33 (by rw [c37x]; decide) (by rw [c37x]; decide) (by rw [c37x]; rfl) (by decide) ?_
        exact law_row A hw hl hi hf B_row hR kk
      by_cases c38x : x = 38
      · refine lv_tableIn (tgt := 1334) hx hb dL_law_33 (by rw [c38x]; decide) (by rw [c38x]; decide) (by rw [c38x]; rfl) (by decide) ?_
        exact law_put A hw hl hi hf B_put hR kk
      by_cases c39x : x = 39
      · refine lv_tableIn (tgt := 1407) hx hb dL_law_33 (by rw [c39x]; decide) (by rw [c39x]; decide) (by rw [c39x]; rfl) (by decide) ?_
        exact law_element A hw hl hi hf B_element hR kk
      by_cases c40x : x = 40
      · refine lv_tableIn (tgt := 1441) hx hb dL_law_33 (by rw [c40x]; decide) (by rw [c40x]; decide) (by rw [c40x]; rfl) (by decide) ?_
        exact law_shift A hw hl hi hf B_shift hR kk
      by_cases c41x : x = 41
      · refine lv_tableIn (tgt := 1504) hx hb dL_law_33 (by rw [c41x]; decide) (by rw [c41x]; decide) (by rw [c41x]; rfl) (by decide) ?_
        exact law_taken A hw hl hi hf B_taken hR kk
      by_cases c42x : x = 42
      · refine lv_tableIn (tgt := 1537) hx hb dL_law_33 (by rw [c42x]; decide) (by rw [c42x]; decide) (by rw [c42x]; rfl) (by decide) ?_
        exact law_count A hw hl hi hf B_count hR kk
      refine lv_tableOut (tgt := 1560) hx hb dL_law_33 (by have q0 := ne_toInt (a := 0) c0x (by decide); have q1 := ne_toInt (a := 1) c1x (by decide); have q2 := ne_toInt (a := 2) c2x (by decide); have q3 := ne_toInt (a := 3) c3x (by decide); have q4 := ne_toInt (a := 4) c4x (by decide); have q5 := ne_toInt (a := 5) c5x (by decide); have q6 := ne_toInt (a := 6) c6x (by decide); have q7 := ne_toInt (a := 7) c7x (by decide); have q8 := ne_toInt (a := 8) c8x (by decide); have q9 := ne_toInt (a := 9) c9x (by decide); have q10 := ne_toInt (a := 10) c10x (by decide); have q11 := ne_toInt (a := 11) c11x (by decide); have q12 := ne_toInt (a := 12) c12x (by decide); have q13 := ne_toInt (a := 13) c13x (by decide); have q14 := ne_toInt (a := 14) c14x (by decide); have q15 := ne_toInt (a := 15) c15x (by decide); have q16 := ne_toInt (a := 16) c16x (by decide); have q17 := ne_toInt (a := 17) c17x (by decide); have q18 := ne_toInt (a := 18) c18x (by decide); have q19 := ne_toInt (a := 19) c19x (by decide); have q20 := ne_toInt (a := 20) c20x (by decide); have q21 := ne_toInt (a := 21) c21x (by decide); have q22 := ne_toInt (a := 22) c22x (by decide); have q23 := ne_toInt (a := 23) c23x (by decide); have q24 := ne_toInt (a := 24) c24x (by decide); have q25 := ne_toInt (a := 25) c25x (by decide); have q26 := ne_toInt (a := 26) c26x (by decide); have q27 := ne_toInt (a := 27) c27x (by decide); have q28 := ne_toInt (a := 28) c28x (by decide); have q29 := ne_toInt (a := 29) c29x (by decide); have q30 := ne_toInt (a := 30) c30x (by decide); have q31 := ne_toInt (a := 31) c31x (by decide); have q32 := ne_toInt (a := 32) c32x (by decide); have q33 := ne_toInt (a := 33) c33x (by decide); have q34 := ne_toInt (a := 34) c34x (by decide); have q35 := ne_toInt (a := 35) c35x (by decide); have q36 := ne_toInt (a := 36) c36x (by decide); have q37 := ne_toInt (a := 37) c37x (by decide); have q38 := ne_toInt (a := 38) c38x (by decide); have q39 := ne_toInt (a := 39) c39x (by decide); have q40 := ne_toInt (a := 40) c40x (by decide); have q41 := ne_toInt (a := 41) c41x (by decide); have q42 := ne_toInt (a := 42) c42x (by decide); omega) (by decide) ?_
      exact kk u v H locs hR hw
