abbrev w_X3_forgetAll (E : Ev) (p_this : Nat) (p_ovenNumbers : Nat) (p_doughNumbers : Nat) (v_ovenCount : Int32) (v_doughCount : Int32) : va_W := [(p_this, .inr (3, [.ref p_ovenNumbers, .ref p_doughNumbers, .int v_ovenCount, .int v_doughCount]))]
set_option maxHeartbeats 4000000 in
set_option maxRecDepth 100000 in
theorem m_X3_forgetAll {l : Launch} (E : Ev) (p_this : Nat) (p_ovenNumbers : Nat) (p_doughNumbers : Nat) (v_ovenCount : Int32) (v_doughCount : Int32)  (res : Int32 × Int32) (hf : f_X3_forgetAll  v_ovenCount v_doughCount  = some res) : MutV l E 1 yX3_forgetAll cX3_forgetAll 1 [.ref p_this] (w_X3_forgetAll E p_this p_ovenNumbers p_doughNumbers v_ovenCount v_doughCount) (w_X3_forgetAll E p_this p_ovenNumbers p_doughNumbers res.1 res.2) := by
  refine MutV.of (by decide) (Nat.le_of_ble_eq_true rfl) ?_
  intro p e s m args below meth c Q A X hK hA hret H locs ls hl hP hD hS
  obtain ⟨hx, hb, hml, hown, hts, hrt, hlk⟩ := id X
  have hl : lv_has ls 1 [(0, .ref p_this)] := hl
  unfold f_X3_forgetAll at hf
  refine lv_aload_n hx hb dX3_forgetAll_0 rfl (lv_at hl 0 rfl) ?_
  refine lv_iconst (v := (0 : Int32)) hx hb dX3_forgetAll_1 (by decide) ?_
  refine pf_RX3_18 X hK hP hD hS 0 rfl rfl dX3_forgetAll_2 (fun H locs hP hD hS => ?_)
  have hP : va_P E.1 classes (w_X3_forgetAll E p_this p_ovenNumbers p_doughNumbers (0 : Int32) v_doughCount) H := hP
  have hD : va_D A (w_X3_forgetAll E p_this p_ovenNumbers p_doughNumbers (0 : Int32) v_doughCount) := hD
  refine lv_aload_n hx hb dX3_forgetAll_5 rfl (lv_at hl 0 rfl) ?_
  refine lv_iconst (v := (0 : Int32)) hx hb dX3_forgetAll_6 (by decide) ?_
  refine pf_RX3_22 X hK hP hD hS 0 rfl rfl dX3_forgetAll_7 (fun H locs hP hD hS => ?_)
  have hP : va_P E.1 classes (w_X3_forgetAll E p_this p_ovenNumbers p_doughNumbers (0 : Int32) (0 : Int32)) H := hP
  have hD : va_D A (w_X3_forgetAll E p_this p_ovenNumbers p_doughNumbers (0 : Int32) (0 : Int32)) := hD
  obtain rfl := Option.some.inj hf
  exact hret H locs _ ls hP hS dX3_forgetAll_10

abbrev w_X3_ovens (E : Ev) (p_this : Nat) (p_ovenNumbers : Nat) (p_doughNumbers : Nat) (v_ovenCount : Int32) (v_doughCount : Int32) : va_W := [(p_this, .inr (3, [.ref p_ovenNumbers, .ref p_doughNumbers, .int v_ovenCount, .int v_doughCount]))]
set_option maxHeartbeats 4000000 in
set_option maxRecDepth 100000 in
theorem m_X3_ovens {l : Launch} (E : Ev) (p_this : Nat) (p_ovenNumbers : Nat) (p_doughNumbers : Nat) (v_ovenCount : Int32) (v_doughCount : Int32)  (res : Int32) (hf : f_X3_ovens  v_ovenCount  = some res) : PureI l E 1 yX3_ovens cX3_ovens 1 .int [.ref p_this] (w_X3_ovens E p_this p_ovenNumbers p_doughNumbers v_ovenCount v_doughCount) res := by
  refine PureI.of (by decide) (Nat.le_of_ble_eq_true rfl) ?_
  intro p e s m args below meth c Q A X hK hA hret H locs ls hl hP hS
  obtain ⟨hx, hb, hml, hown, hts, hrt, hlk⟩ := id X
  have hl : lv_has ls 1 [(0, .ref p_this)] := hl
  unfold f_X3_ovens at hf
  refine lv_aload_n hx hb dX3_ovens_0 rfl (lv_at hl 0 rfl) ?_
  refine gf_RX3_18 X hK hP 0 rfl rfl dX3_ovens_1 ?_
  obtain rfl := Option.some.inj hf
  exact hret H locs _ ls rfl hP hS dX3_ovens_4

abbrev w_X3_doughs (E : Ev) (p_this : Nat) (p_ovenNumbers : Nat) (p_doughNumbers : Nat) (v_ovenCount : Int32) (v_doughCount : Int32) : va_W := [(p_this, .inr (3, [.ref p_ovenNumbers, .ref p_doughNumbers, .int v_ovenCount, .int v_doughCount]))]
set_option maxHeartbeats 4000000 in
set_option maxRecDepth 100000 in
theorem m_X3_doughs {l : Launch} (E : Ev) (p_this : Nat) (p_ovenNumbers : Nat) (p_doughNumbers : Nat) (v_ovenCount : Int32) (v_doughCount : Int32)  (res : Int32) (hf : f_X3_doughs  v_doughCount  = some res) : PureI l E 1 yX3_doughs cX3_doughs 1 .int [.ref p_this] (w_X3_doughs E p_this p_ovenNumbers p_doughNumbers v_ovenCount v_doughCount) res := by
  refine PureI.of (by decide) (Nat.le_of_ble_eq_true rfl) ?_
  intro p e s m args below meth c Q A X hK hA hret H locs ls hl hP hS
  obtain ⟨hx, hb, hml, hown, hts, hrt, hlk⟩ := id X
  have hl : lv_has ls 1 [(0, .ref p_this)] := hl
  unfold f_X3_doughs at hf
  refine lv_aload_n hx hb dX3_doughs_0 rfl (lv_at hl 0 rfl) ?_
  refine gf_RX3_22 X hK hP 0 rfl rfl dX3_doughs_1 ?_
  obtain rfl := Option.some.inj hf
  exact hret H locs _ ls rfl hP hS dX3_doughs_4

abbrev w_X3_hasOven (E : Ev) (p_this : Nat) (p_ovenNumbers : Nat) (p_doughNumbers : Nat) (v_ovenCount : Int32) (v_doughCount : Int32) : va_W := [(p_this, .inr (3, [.ref p_ovenNumbers, .ref p_doughNumbers, .int v_ovenCount, .int v_doughCount]))]
set_option maxHeartbeats 4000000 in
set_option maxRecDepth 100000 in
theorem m_X3_hasOven {l : Launch} (E : Ev) (p_this : Nat) (p_ovenNumbers : Nat) (p_doughNumbers : Nat) (v_ovenCount : Int32) (v_doughCount : Int32) (x1 : Int32) (res : Int32) (hf : f_X3_hasOven  v_ovenCount x1 = some res) : PureI l E 1 yX3_hasOven cX3_hasOven 2 .boolean [.ref p_this, .int x1] (w_X3_hasOven E p_this p_ovenNumbers p_doughNumbers v_ovenCount v_doughCount) res := by
  refine PureI.of (by decide) (Nat.le_of_ble_eq_true rfl) ?_
  intro p e s m args below meth c Q A X hK hA hret H locs ls hl hP hS
  obtain ⟨hx, hb, hml, hown, hts, hrt, hlk⟩ := id X
  have hl : lv_has ls 2 [(0, .ref p_this), (1, .int x1)] := hl
  unfold f_X3_hasOven at hf
  refine lv_iload_n hx hb dX3_hasOven_0 rfl (lv_at hl 1 rfl) ?_
  refine lv_if_lt (tgt := 16) hx hb dX3_hasOven_1 (by decide) (fun c_1 => ?_) (fun c_1 => ?_)
  · replace hf := ot c_1 hf
    refine lv_iconst (v := (0 : Int32)) hx hb dX3_hasOven_16 (by decide) ?_
    obtain rfl := Option.some.inj hf
    exact hret H locs _ ls nar0 hP hS dX3_hasOven_17
  · replace hf := of c_1 hf
    refine lv_iload_n hx hb dX3_hasOven_4 rfl (lv_at hl 1 rfl) ?_
    refine lv_aload_n hx hb dX3_hasOven_5 rfl (lv_at hl 0 rfl) ?_
    refine gf_RX3_18 X hK hP 0 rfl rfl dX3_hasOven_6 ?_
    refine lv_icmp_ge (tgt := 16) hx hb dX3_hasOven_9 (by decide) (fun c_2 => ?_) (fun c_2 => ?_)
    · replace hf := ot c_2 hf
      refine lv_iconst (v := (0 : Int32)) hx hb dX3_hasOven_16 (by decide) ?_
      obtain rfl := Option.some.inj hf
      exact hret H locs _ ls nar0 hP hS dX3_hasOven_17
    · replace hf := of c_2 hf
      refine lv_iconst (v := (1 : Int32)) hx hb dX3_hasOven_12 (by decide) ?_
      refine lv_goto (tgt := 17) hx hb dX3_hasOven_13 (by decide) ?_
      obtain rfl := Option.some.inj hf
      exact hret H locs _ ls nar1 hP hS dX3_hasOven_17

abbrev w_X3_hasDough (E : Ev) (p_this : Nat) (p_ovenNumbers : Nat) (p_doughNumbers : Nat) (v_ovenCount : Int32) (v_doughCount : Int32) : va_W := [(p_this, .inr (3, [.ref p_ovenNumbers, .ref p_doughNumbers, .int v_ovenCount, .int v_doughCount]))]
set_option maxHeartbeats 4000000 in
set_option maxRecDepth 100000 in
theorem m_X3_hasDough {l : Launch} (E : Ev) (p_this : Nat) (p_ovenNumbers : Nat) (p_doughNumbers : Nat) (v_ovenCount : Int32) (v_doughCount : Int32) (x1 : Int32) (res : Int32) (hf : f_X3_hasDough  v_doughCount x1 = some res) : PureI l E 1 yX3_hasDough cX3_hasDough 2 .boolean [.ref p_this, .int x1] (w_X3_hasDough E p_this p_ovenNumbers p_doughNumbers v_ovenCount v_doughCount) res := by
  refine PureI.of (by decide) (Nat.le_of_ble_eq_true rfl) ?_
  intro p e s m args below meth c Q A X hK hA hret H locs ls hl hP hS
  obtain ⟨hx, hb, hml, hown, hts, hrt, hlk⟩ := id X
  have hl : lv_has ls 2 [(0, .ref p_this), (1, .int x1)] := hl
  unfold f_X3_hasDough at hf
  refine lv_iload_n hx hb dX3_hasDough_0 rfl (lv_at hl 1 rfl) ?_
  refine lv_if_lt (tgt := 16) hx hb dX3_hasDough_1 (by decide) (fun c_1 => ?_) (fun c_1 => ?_)
  · replace hf := ot c_1 hf
    refine lv_iconst (v := (0 : Int32)) hx hb dX3_hasDough_16 (by decide) ?_
    obtain rfl := Option.some.inj hf
    exact hret H locs _ ls nar0 hP hS dX3_hasDough_17
  · replace hf := of c_1 hf
    refine lv_iload_n hx hb dX3_hasDough_4 rfl (lv_at hl 1 rfl) ?_
    refine lv_aload_n hx hb dX3_hasDough_5 rfl (lv_at hl 0 rfl) ?_
    refine gf_RX3_22 X hK hP 0 rfl rfl dX3_hasDough_6 ?_
    refine lv_icmp_ge (tgt := 16) hx hb dX3_hasDough_9 (by decide) (fun c_2 => ?_) (fun c_2 => ?_)
    · replace hf := ot c_2 hf
      refine lv_iconst (v := (0 : Int32)) hx hb dX3_hasDough_16 (by decide) ?_
      obtain rfl := Option.some.inj hf
      exact hret H locs _ ls nar0 hP hS dX3_hasDough_17
    · replace hf := of c_2 hf
      refine lv_iconst (v := (1 : Int32)) hx hb dX3_hasDough_12 (by decide) ?_
      refine lv_goto (tgt := 17) hx hb dX3_hasDough_13 (by decide) ?_
      obtain rfl := Option.some.inj hf
      exact hret H locs _ ls nar1 hP hS dX3_hasDough_17

abbrev w_X3_ofOven (E : Ev) (p_this : Nat) (p_ovenNumbers : Nat) (p_doughNumbers : Nat) (v_ovenCount : Int32) (v_doughCount : Int32) (f_ovenNumbers : Nat → Int32) : va_W := [(p_this, .inr (3, [.ref p_ovenNumbers, .ref p_doughNumbers, .int v_ovenCount, .int v_doughCount])), (p_ovenNumbers, .inl (E.2.1, 10, .inl f_ovenNumbers))]
set_option maxHeartbeats 4000000 in
set_option maxRecDepth 100000 in
theorem m_X3_ofOven {l : Launch} (E : Ev) (p_this : Nat) (p_ovenNumbers : Nat) (p_doughNumbers : Nat) (v_ovenCount : Int32) (v_doughCount : Int32) (f_ovenNumbers : Nat → Int32) (x1 : Int32) (x2 : Int32) (res : Int32) (hf : f_X3_ofOven  v_ovenCount f_ovenNumbers x1 x2 = some res) : PureI l E 2 yX3_ofOven cX3_ofOven 4 .int [.ref p_this, .int x1, .int x2] (w_X3_ofOven E p_this p_ovenNumbers p_doughNumbers v_ovenCount v_doughCount f_ovenNumbers) res := by
  refine PureI.of (by decide) (Nat.le_of_ble_eq_true rfl) ?_
  intro p e s m args below meth c Q A X hK hA hret H locs ls hl hP hS
  obtain ⟨hx, hb, hml, hown, hts, hrt, hlk⟩ := id X
  have hl : lv_has ls 4 [(0, .ref p_this), (1, .int x1), (2, .int x2)] := hl
  unfold f_X3_ofOven at hf
  refine lv_iload_n hx hb dX3_ofOven_0 rfl (lv_at hl 1 rfl) ?_
  refine lv_iconst (v := (2 : Int32)) hx hb dX3_ofOven_1 (by decide) ?_
  refine lv_imul hx hb dX3_ofOven_2 ?_
  refine lv_iload_n hx hb dX3_ofOven_3 rfl (lv_at hl 2 rfl) ?_
  refine lv_iadd hx hb dX3_ofOven_4 ?_
  refine lv_istore_n (lv' := [(3, .int ((x1 * (2 : Int32)) + x2)), (0, .ref p_this), (1, .int x1), (2, .int x2)]) hx hb dX3_ofOven_5 rfl hl (by decide) rfl (fun ls hl => ?_)
  refine lv_aload_n hx hb dX3_ofOven_6 rfl (lv_at hl 1 rfl) ?_
  refine lv_iload_n hx hb dX3_ofOven_7 rfl (lv_at hl 2 rfl) ?_
  obtain ⟨u_1, hu_1, hf⟩ := ob hf
  refine pV X hK hA hP hS hl.1 (m_X3_hasOven (l := l) E p_this p_ovenNumbers p_doughNumbers v_ovenCount v_doughCount x1 u_1 hu_1) kRX3_25 [0] rfl rfl rfl rfl ⟨⟨(Nat.le_of_ble_eq_true rfl), (Nat.le_of_ble_eq_true rfl)⟩, Nat.zero_le _, Nat.zero_le _⟩ rfl rfl (Nat.le_of_ble_eq_true rfl) dX3_ofOven_8 (fun H locs hP hS => ?_)
  refine lv_if_eq (tgt := 36) hx hb dX3_ofOven_11 (by decide) (fun c_2 => ?_) (fun c_2 => ?_)
  · replace hf := ot c_2 hf
    refine lv_iconst (v := (0 : Int32)) hx hb dX3_ofOven_36 (by decide) ?_
    obtain rfl := Option.some.inj hf
    exact hret H locs _ ls rfl hP hS dX3_ofOven_37
  · replace hf := of c_2 hf
    refine lv_iload_n hx hb dX3_ofOven_14 rfl (lv_at hl 0 rfl) ?_
    refine lv_if_lt (tgt := 36) hx hb dX3_ofOven_15 (by decide) (fun c_3 => ?_) (fun c_3 => ?_)
    · replace hf := ot c_3 hf
      refine lv_iconst (v := (0 : Int32)) hx hb dX3_ofOven_36 (by decide) ?_
      obtain rfl := Option.some.inj hf
      exact hret H locs _ ls rfl hP hS dX3_ofOven_37
    · replace hf := of c_3 hf
      refine lv_iload_n hx hb dX3_ofOven_18 rfl (lv_at hl 0 rfl) ?_
      refine lv_aload_n hx hb dX3_ofOven_19 rfl (lv_at hl 1 rfl) ?_
      refine gf_RX3_9 X hK hP 0 rfl rfl dX3_ofOven_20 ?_
      refine va_alen (v := (10 : Int32)) hx hb hK.1 hP 1 0 rfl rfl rfl dX3_ofOven_23 ?_
      refine lv_icmp_ge (tgt := 36) hx hb dX3_ofOven_24 (by decide) (fun c_4 => ?_) (fun c_4 => ?_)
      · replace hf := ot c_4 hf
        refine lv_iconst (v := (0 : Int32)) hx hb dX3_ofOven_36 (by decide) ?_
        obtain rfl := Option.some.inj hf
        exact hret H locs _ ls rfl hP hS dX3_ofOven_37
      · replace hf := of c_4 hf
        refine lv_aload_n hx hb dX3_ofOven_27 rfl (lv_at hl 1 rfl) ?_
        refine gf_RX3_9 X hK hP 0 rfl rfl dX3_ofOven_28 ?_
        refine lv_iload_n hx hb dX3_ofOven_31 rfl (lv_at hl 0 rfl) ?_
        obtain ⟨g_5, hf⟩ := og hf
        refine iald X hK hP 1 rfl _ rfl g_5 dX3_ofOven_32 ?_
        refine lv_goto (tgt := 37) hx hb dX3_ofOven_33 (by decide) ?_
        obtain rfl := Option.some.inj hf
        exact hret H locs _ ls rfl hP hS dX3_ofOven_37

abbrev w_X3_ofDough (E : Ev) (p_this : Nat) (p_ovenNumbers : Nat) (p_doughNumbers : Nat) (v_ovenCount : Int32) (v_doughCount : Int32) (f_doughNumbers : Nat → Int32) : va_W := [(p_this, .inr (3, [.ref p_ovenNumbers, .ref p_doughNumbers, .int v_ovenCount, .int v_doughCount])), (p_doughNumbers, .inl (E.2.1, 30, .inl f_doughNumbers))]
set_option maxHeartbeats 4000000 in
set_option maxRecDepth 100000 in
theorem m_X3_ofDough {l : Launch} (E : Ev) (p_this : Nat) (p_ovenNumbers : Nat) (p_doughNumbers : Nat) (v_ovenCount : Int32) (v_doughCount : Int32) (f_doughNumbers : Nat → Int32) (x1 : Int32) (x2 : Int32) (res : Int32) (hf : f_X3_ofDough  v_doughCount f_doughNumbers x1 x2 = some res) : PureI l E 2 yX3_ofDough cX3_ofDough 4 .int [.ref p_this, .int x1, .int x2] (w_X3_ofDough E p_this p_ovenNumbers p_doughNumbers v_ovenCount v_doughCount f_doughNumbers) res := by
  refine PureI.of (by decide) (Nat.le_of_ble_eq_true rfl) ?_
  intro p e s m args below meth c Q A X hK hA hret H locs ls hl hP hS
  obtain ⟨hx, hb, hml, hown, hts, hrt, hlk⟩ := id X
  have hl : lv_has ls 4 [(0, .ref p_this), (1, .int x1), (2, .int x2)] := hl
  unfold f_X3_ofDough at hf
  refine lv_iload_n hx hb dX3_ofDough_0 rfl (lv_at hl 1 rfl) ?_
  refine lv_iconst (v := (5 : Int32)) hx hb dX3_ofDough_1 (by decide) ?_
  refine lv_imul hx hb dX3_ofDough_2 ?_
  refine lv_iload_n hx hb dX3_ofDough_3 rfl (lv_at hl 2 rfl) ?_
  refine lv_iadd hx hb dX3_ofDough_4 ?_
  refine lv_istore_n (lv' := [(3, .int ((x1 * (5 : Int32)) + x2)), (0, .ref p_this), (1, .int x1), (2, .int x2)]) hx hb dX3_ofDough_5 rfl hl (by decide) rfl (fun ls hl => ?_)
  refine lv_aload_n hx hb dX3_ofDough_6 rfl (lv_at hl 1 rfl) ?_
  refine lv_iload_n hx hb dX3_ofDough_7 rfl (lv_at hl 2 rfl) ?_
  obtain ⟨u_1, hu_1, hf⟩ := ob hf
  refine pV X hK hA hP hS hl.1 (m_X3_hasDough (l := l) E p_this p_ovenNumbers p_doughNumbers v_ovenCount v_doughCount x1 u_1 hu_1) kRX3_29 [0] rfl rfl rfl rfl ⟨⟨(Nat.le_of_ble_eq_true rfl), (Nat.le_of_ble_eq_true rfl)⟩, Nat.zero_le _, Nat.zero_le _⟩ rfl rfl (Nat.le_of_ble_eq_true rfl) dX3_ofDough_8 (fun H locs hP hS => ?_)
  refine lv_if_eq (tgt := 36) hx hb dX3_ofDough_11 (by decide) (fun c_2 => ?_) (fun c_2 => ?_)
  · replace hf := ot c_2 hf
    refine lv_iconst (v := (0 : Int32)) hx hb dX3_ofDough_36 (by decide) ?_
    obtain rfl := Option.some.inj hf
    exact hret H locs _ ls rfl hP hS dX3_ofDough_37
  · replace hf := of c_2 hf
    refine lv_iload_n hx hb dX3_ofDough_14 rfl (lv_at hl 0 rfl) ?_
    refine lv_if_lt (tgt := 36) hx hb dX3_ofDough_15 (by decide) (fun c_3 => ?_) (fun c_3 => ?_)
    · replace hf := ot c_3 hf
      refine lv_iconst (v := (0 : Int32)) hx hb dX3_ofDough_36 (by decide) ?_
      obtain rfl := Option.some.inj hf
      exact hret H locs _ ls rfl hP hS dX3_ofDough_37
    · replace hf := of c_3 hf
      refine lv_iload_n hx hb dX3_ofDough_18 rfl (lv_at hl 0 rfl) ?_
      refine lv_aload_n hx hb dX3_ofDough_19 rfl (lv_at hl 1 rfl) ?_
      refine gf_RX3_15 X hK hP 0 rfl rfl dX3_ofDough_20 ?_
      refine va_alen (v := (30 : Int32)) hx hb hK.1 hP 1 0 rfl rfl rfl dX3_ofDough_23 ?_
      refine lv_icmp_ge (tgt := 36) hx hb dX3_ofDough_24 (by decide) (fun c_4 => ?_) (fun c_4 => ?_)
      · replace hf := ot c_4 hf
        refine lv_iconst (v := (0 : Int32)) hx hb dX3_ofDough_36 (by decide) ?_
        obtain rfl := Option.some.inj hf
        exact hret H locs _ ls rfl hP hS dX3_ofDough_37
      · replace hf := of c_4 hf
        refine lv_aload_n hx hb dX3_ofDough_27 rfl (lv_at hl 1 rfl) ?_
        refine gf_RX3_15 X hK hP 0 rfl rfl dX3_ofDough_28 ?_
        refine lv_iload_n hx hb dX3_ofDough_31 rfl (lv_at hl 0 rfl) ?_
        obtain ⟨g_5, hf⟩ := og hf
        refine iald X hK hP 1 rfl _ rfl g_5 dX3_ofDough_32 ?_
        refine lv_goto (tgt := 37) hx hb dX3_ofDough_33 (by decide) ?_
        obtain rfl := Option.some.inj hf
        exact hret H locs _ ls rfl hP hS dX3_ofDough_37

abbrev w_X3_addOven (E : Ev) (p_this : Nat) (p_ovenNumbers : Nat) (p_doughNumbers : Nat) (v_ovenCount : Int32) (v_doughCount : Int32) : va_W := [(p_this, .inr (3, [.ref p_ovenNumbers, .ref p_doughNumbers, .int v_ovenCount, .int v_doughCount]))]
set_option maxHeartbeats 4000000 in
set_option maxRecDepth 100000 in
theorem m_X3_addOven {l : Launch} (E : Ev) (p_this : Nat) (p_ovenNumbers : Nat) (p_doughNumbers : Nat) (v_ovenCount : Int32) (v_doughCount : Int32)  (res : Int32 × Int32) (hf : f_X3_addOven  v_ovenCount  = some res) : MutI l E 1 yX3_addOven cX3_addOven 1 .boolean [.ref p_this] (w_X3_addOven E p_this p_ovenNumbers p_doughNumbers v_ovenCount v_doughCount) (w_X3_addOven E p_this p_ovenNumbers p_doughNumbers res.2 v_doughCount) res.1 := by
  refine MutI.of (by decide) (Nat.le_of_ble_eq_true rfl) ?_
  intro p e s m args below meth c Q A X hK hA hret H locs ls hl hP hD hS
  obtain ⟨hx, hb, hml, hown, hts, hrt, hlk⟩ := id X
  have hl : lv_has ls 1 [(0, .ref p_this)] := hl
  unfold f_X3_addOven at hf
  refine lv_aload_n hx hb dX3_addOven_0 rfl (lv_at hl 0 rfl) ?_
  refine gf_RX3_18 X hK hP 0 rfl rfl dX3_addOven_1 ?_
  refine lv_iconst (v := (5 : Int32)) hx hb dX3_addOven_4 (by decide) ?_
  refine lv_icmp_lt (tgt := 10) hx hb dX3_addOven_5 (by decide) (fun c_1 => ?_) (fun c_1 => ?_)
  · replace hf := ot c_1 hf
    refine lv_aload_n hx hb dX3_addOven_10 rfl (lv_at hl 0 rfl) ?_
    refine lv_dup hx hb dX3_addOven_11 rfl ?_
    refine gf_RX3_18 X hK hP 0 rfl rfl dX3_addOven_12 ?_
    refine lv_iconst (v := (1 : Int32)) hx hb dX3_addOven_15 (by decide) ?_
    refine lv_iadd hx hb dX3_addOven_16 ?_
    refine pf_RX3_18 X hK hP hD hS 0 rfl rfl dX3_addOven_17 (fun H locs hP hD hS => ?_)
    have hP : va_P E.1 classes (w_X3_addOven E p_this p_ovenNumbers p_doughNumbers (v_ovenCount + (1 : Int32)) v_doughCount) H := hP
    have hD : va_D A (w_X3_addOven E p_this p_ovenNumbers p_doughNumbers (v_ovenCount + (1 : Int32)) v_doughCount) := hD
    refine lv_iconst (v := (1 : Int32)) hx hb dX3_addOven_20 (by decide) ?_
    obtain rfl := Option.some.inj hf
    exact hret H locs _ ls nar1 hP hS dX3_addOven_21
  · replace hf := of c_1 hf
    refine lv_iconst (v := (0 : Int32)) hx hb dX3_addOven_8 (by decide) ?_
    obtain rfl := Option.some.inj hf
    exact hret H locs _ ls nar0 hP hS dX3_addOven_9

abbrev w_X3_addDough (E : Ev) (p_this : Nat) (p_ovenNumbers : Nat) (p_doughNumbers : Nat) (v_ovenCount : Int32) (v_doughCount : Int32) : va_W := [(p_this, .inr (3, [.ref p_ovenNumbers, .ref p_doughNumbers, .int v_ovenCount, .int v_doughCount]))]
set_option maxHeartbeats 4000000 in
set_option maxRecDepth 100000 in
theorem m_X3_addDough {l : Launch} (E : Ev) (p_this : Nat) (p_ovenNumbers : Nat) (p_doughNumbers : Nat) (v_ovenCount : Int32) (v_doughCount : Int32)  (res : Int32 × Int32) (hf : f_X3_addDough  v_doughCount  = some res) : MutI l E 1 yX3_addDough cX3_addDough 1 .boolean [.ref p_this] (w_X3_addDough E p_this p_ovenNumbers p_doughNumbers v_ovenCount v_doughCount) (w_X3_addDough E p_this p_ovenNumbers p_doughNumbers v_ovenCount res.2) res.1 := by
  refine MutI.of (by decide) (Nat.le_of_ble_eq_true rfl) ?_
  intro p e s m args below meth c Q A X hK hA hret H locs ls hl hP hD hS
  obtain ⟨hx, hb, hml, hown, hts, hrt, hlk⟩ := id X
  have hl : lv_has ls 1 [(0, .ref p_this)] := hl
  unfold f_X3_addDough at hf
  refine lv_aload_n hx hb dX3_addDough_0 rfl (lv_at hl 0 rfl) ?_
  refine gf_RX3_22 X hK hP 0 rfl rfl dX3_addDough_1 ?_
  refine lv_bipush (v := (6 : Int32)) hx hb dX3_addDough_4 (by decide) ?_
  refine lv_icmp_lt (tgt := 11) hx hb dX3_addDough_6 (by decide) (fun c_1 => ?_) (fun c_1 => ?_)
  · replace hf := ot c_1 hf
    refine lv_aload_n hx hb dX3_addDough_11 rfl (lv_at hl 0 rfl) ?_
    refine lv_dup hx hb dX3_addDough_12 rfl ?_
    refine gf_RX3_22 X hK hP 0 rfl rfl dX3_addDough_13 ?_
    refine lv_iconst (v := (1 : Int32)) hx hb dX3_addDough_16 (by decide) ?_
    refine lv_iadd hx hb dX3_addDough_17 ?_
    refine pf_RX3_22 X hK hP hD hS 0 rfl rfl dX3_addDough_18 (fun H locs hP hD hS => ?_)
    have hP : va_P E.1 classes (w_X3_addDough E p_this p_ovenNumbers p_doughNumbers v_ovenCount (v_doughCount + (1 : Int32))) H := hP
    have hD : va_D A (w_X3_addDough E p_this p_ovenNumbers p_doughNumbers v_ovenCount (v_doughCount + (1 : Int32))) := hD
    refine lv_iconst (v := (1 : Int32)) hx hb dX3_addDough_21 (by decide) ?_
    obtain rfl := Option.some.inj hf
    exact hret H locs _ ls nar1 hP hS dX3_addDough_22
  · replace hf := of c_1 hf
    refine lv_iconst (v := (0 : Int32)) hx hb dX3_addDough_9 (by decide) ?_
    obtain rfl := Option.some.inj hf
    exact hret H locs _ ls nar0 hP hS dX3_addDough_10

abbrev w_X3_setOfLastOven (E : Ev) (p_this : Nat) (p_ovenNumbers : Nat) (p_doughNumbers : Nat) (v_ovenCount : Int32) (v_doughCount : Int32) (f_ovenNumbers : Nat → Int32) : va_W := [(p_this, .inr (3, [.ref p_ovenNumbers, .ref p_doughNumbers, .int v_ovenCount, .int v_doughCount])), (p_ovenNumbers, .inl (E.2.1, 10, .inl f_ovenNumbers))]
set_option maxHeartbeats 4000000 in
set_option maxRecDepth 100000 in
theorem m_X3_setOfLastOven {l : Launch} (E : Ev) (p_this : Nat) (p_ovenNumbers : Nat) (p_doughNumbers : Nat) (v_ovenCount : Int32) (v_doughCount : Int32) (f_ovenNumbers : Nat → Int32) (x1 : Int32) (x2 : Int32) (res : (Nat → Int32)) (hf : f_X3_setOfLastOven  v_ovenCount f_ovenNumbers x1 x2 = some res) : MutV l E 1 yX3_setOfLastOven cX3_setOfLastOven 4 [.ref p_this, .int x1, .int x2] (w_X3_setOfLastOven E p_this p_ovenNumbers p_doughNumbers v_ovenCount v_doughCount f_ovenNumbers) (w_X3_setOfLastOven E p_this p_ovenNumbers p_doughNumbers v_ovenCount v_doughCount res) := by
  refine MutV.of (by decide) (Nat.le_of_ble_eq_true rfl) ?_
  intro p e s m args below meth c Q A X hK hA hret H locs ls hl hP hD hS
  obtain ⟨hx, hb, hml, hown, hts, hrt, hlk⟩ := id X
  have hl : lv_has ls 4 [(0, .ref p_this), (1, .int x1), (2, .int x2)] := hl
  unfold f_X3_setOfLastOven at hf
  refine lv_aload_n hx hb dX3_setOfLastOven_0 rfl (lv_at hl 0 rfl) ?_
  refine gf_RX3_18 X hK hP 0 rfl rfl dX3_setOfLastOven_1 ?_
  refine lv_iconst (v := (1 : Int32)) hx hb dX3_setOfLastOven_4 (by decide) ?_
  refine lv_isub hx hb dX3_setOfLastOven_5 ?_
  refine lv_iconst (v := (2 : Int32)) hx hb dX3_setOfLastOven_6 (by decide) ?_
  refine lv_imul hx hb dX3_setOfLastOven_7 ?_
  refine lv_iload_n hx hb dX3_setOfLastOven_8 rfl (lv_at hl 1 rfl) ?_
  refine lv_iadd hx hb dX3_setOfLastOven_9 ?_
  refine lv_istore_n (lv' := [(3, .int (((v_ovenCount - (1 : Int32)) * (2 : Int32)) + x1)), (0, .ref p_this), (1, .int x1), (2, .int x2)]) hx hb dX3_setOfLastOven_10 rfl hl (by decide) rfl (fun ls hl => ?_)
  refine lv_iload_n hx hb dX3_setOfLastOven_11 rfl (lv_at hl 0 rfl) ?_
  refine lv_if_lt (tgt := 31) hx hb dX3_setOfLastOven_12 (by decide) (fun c_1 => ?_) (fun c_1 => ?_)
  · replace hf := ot c_1 hf
    obtain rfl := Option.some.inj hf
    exact hret H locs _ ls hP hS dX3_setOfLastOven_31
  · replace hf := of c_1 hf
    refine lv_iload_n hx hb dX3_setOfLastOven_15 rfl (lv_at hl 0 rfl) ?_
    refine lv_aload_n hx hb dX3_setOfLastOven_16 rfl (lv_at hl 1 rfl) ?_
    refine gf_RX3_9 X hK hP 0 rfl rfl dX3_setOfLastOven_17 ?_
    refine va_alen (v := (10 : Int32)) hx hb hK.1 hP 1 0 rfl rfl rfl dX3_setOfLastOven_20 ?_
    refine lv_icmp_ge (tgt := 31) hx hb dX3_setOfLastOven_21 (by decide) (fun c_2 => ?_) (fun c_2 => ?_)
    · replace hf := ot c_2 hf
      obtain rfl := Option.some.inj hf
      exact hret H locs _ ls hP hS dX3_setOfLastOven_31
    · replace hf := of c_2 hf
      refine lv_aload_n hx hb dX3_setOfLastOven_24 rfl (lv_at hl 1 rfl) ?_
      refine gf_RX3_9 X hK hP 0 rfl rfl dX3_setOfLastOven_25 ?_
      refine lv_iload_n hx hb dX3_setOfLastOven_28 rfl (lv_at hl 0 rfl) ?_
      refine lv_iload_n hx hb dX3_setOfLastOven_29 rfl (lv_at hl 3 rfl) ?_
      obtain ⟨g_3, hf⟩ := og hf
      refine iast X hK hP hD hS 1 rfl _ rfl g_3 dX3_setOfLastOven_30 (fun H locs hP hD hS => ?_)
      have hP : va_P E.1 classes (w_X3_setOfLastOven E p_this p_ovenNumbers p_doughNumbers v_ovenCount v_doughCount (upd f_ovenNumbers (((v_ovenCount - (1 : Int32)) * (2 : Int32)) + x1).toNatClampNeg x2)) H := hP
      have hD : va_D A (w_X3_setOfLastOven E p_this p_ovenNumbers p_doughNumbers v_ovenCount v_doughCount (upd f_ovenNumbers (((v_ovenCount - (1 : Int32)) * (2 : Int32)) + x1).toNatClampNeg x2)) := hD
      obtain rfl := Option.some.inj hf
      exact hret H locs _ ls hP hS dX3_setOfLastOven_31

abbrev w_X3_setOfLastDough (E : Ev) (p_this : Nat) (p_ovenNumbers : Nat) (p_doughNumbers : Nat) (v_ovenCount : Int32) (v_doughCount : Int32) (f_doughNumbers : Nat → Int32) : va_W := [(p_this, .inr (3, [.ref p_ovenNumbers, .ref p_doughNumbers, .int v_ovenCount, .int v_doughCount])), (p_doughNumbers, .inl (E.2.1, 30, .inl f_doughNumbers))]
set_option maxHeartbeats 4000000 in
set_option maxRecDepth 100000 in
theorem m_X3_setOfLastDough {l : Launch} (E : Ev) (p_this : Nat) (p_ovenNumbers : Nat) (p_doughNumbers : Nat) (v_ovenCount : Int32) (v_doughCount : Int32) (f_doughNumbers : Nat → Int32) (x1 : Int32) (x2 : Int32) (res : (Nat → Int32)) (hf : f_X3_setOfLastDough  v_doughCount f_doughNumbers x1 x2 = some res) : MutV l E 1 yX3_setOfLastDough cX3_setOfLastDough 4 [.ref p_this, .int x1, .int x2] (w_X3_setOfLastDough E p_this p_ovenNumbers p_doughNumbers v_ovenCount v_doughCount f_doughNumbers) (w_X3_setOfLastDough E p_this p_ovenNumbers p_doughNumbers v_ovenCount v_doughCount res) := by
  refine MutV.of (by decide) (Nat.le_of_ble_eq_true rfl) ?_
  intro p e s m args below meth c Q A X hK hA hret H locs ls hl hP hD hS
  obtain ⟨hx, hb, hml, hown, hts, hrt, hlk⟩ := id X
  have hl : lv_has ls 4 [(0, .ref p_this), (1, .int x1), (2, .int x2)] := hl
  unfold f_X3_setOfLastDough at hf
  refine lv_aload_n hx hb dX3_setOfLastDough_0 rfl (lv_at hl 0 rfl) ?_
  refine gf_RX3_22 X hK hP 0 rfl rfl dX3_setOfLastDough_1 ?_
  refine lv_iconst (v := (1 : Int32)) hx hb dX3_setOfLastDough_4 (by decide) ?_
  refine lv_isub hx hb dX3_setOfLastDough_5 ?_
  refine lv_iconst (v := (5 : Int32)) hx hb dX3_setOfLastDough_6 (by decide) ?_
  refine lv_imul hx hb dX3_setOfLastDough_7 ?_
  refine lv_iload_n hx hb dX3_setOfLastDough_8 rfl (lv_at hl 1 rfl) ?_
  refine lv_iadd hx hb dX3_setOfLastDough_9 ?_
  refine lv_istore_n (lv' := [(3, .int (((v_doughCount - (1 : Int32)) * (5 : Int32)) + x1)), (0, .ref p_this), (1, .int x1), (2, .int x2)]) hx hb dX3_setOfLastDough_10 rfl hl (by decide) rfl (fun ls hl => ?_)
  refine lv_iload_n hx hb dX3_setOfLastDough_11 rfl (lv_at hl 0 rfl) ?_
  refine lv_if_lt (tgt := 31) hx hb dX3_setOfLastDough_12 (by decide) (fun c_1 => ?_) (fun c_1 => ?_)
  · replace hf := ot c_1 hf
    obtain rfl := Option.some.inj hf
    exact hret H locs _ ls hP hS dX3_setOfLastDough_31
  · replace hf := of c_1 hf
    refine lv_iload_n hx hb dX3_setOfLastDough_15 rfl (lv_at hl 0 rfl) ?_
    refine lv_aload_n hx hb dX3_setOfLastDough_16 rfl (lv_at hl 1 rfl) ?_
    refine gf_RX3_15 X hK hP 0 rfl rfl dX3_setOfLastDough_17 ?_
    refine va_alen (v := (30 : Int32)) hx hb hK.1 hP 1 0 rfl rfl rfl dX3_setOfLastDough_20 ?_
    refine lv_icmp_ge (tgt := 31) hx hb dX3_setOfLastDough_21 (by decide) (fun c_2 => ?_) (fun c_2 => ?_)
    · replace hf := ot c_2 hf
      obtain rfl := Option.some.inj hf
      exact hret H locs _ ls hP hS dX3_setOfLastDough_31
    · replace hf := of c_2 hf
      refine lv_aload_n hx hb dX3_setOfLastDough_24 rfl (lv_at hl 1 rfl) ?_
      refine gf_RX3_15 X hK hP 0 rfl rfl dX3_setOfLastDough_25 ?_
      refine lv_iload_n hx hb dX3_setOfLastDough_28 rfl (lv_at hl 0 rfl) ?_
      refine lv_iload_n hx hb dX3_setOfLastDough_29 rfl (lv_at hl 3 rfl) ?_
      obtain ⟨g_3, hf⟩ := og hf
      refine iast X hK hP hD hS 1 rfl _ rfl g_3 dX3_setOfLastDough_30 (fun H locs hP hD hS => ?_)
      have hP : va_P E.1 classes (w_X3_setOfLastDough E p_this p_ovenNumbers p_doughNumbers v_ovenCount v_doughCount (upd f_doughNumbers (((v_doughCount - (1 : Int32)) * (5 : Int32)) + x1).toNatClampNeg x2)) H := hP
      have hD : va_D A (w_X3_setOfLastDough E p_this p_ovenNumbers p_doughNumbers v_ovenCount v_doughCount (upd f_doughNumbers (((v_doughCount - (1 : Int32)) * (5 : Int32)) + x1).toNatClampNeg x2)) := hD
      obtain rfl := Option.some.inj hf
      exact hret H locs _ ls hP hS dX3_setOfLastDough_31

