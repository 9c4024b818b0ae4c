abbrev w_X4_type (E : Ev) (p_this : Nat) (p_script : Nat) (p_told : Nat) (p_draft : Nat) (p_course : Nat) (p_trial : Nat) (p_imageZero : Nat) (p_imageOne : Nat) (p_ledDoughs : Nat) (p_ledOvens : Nat) (p_rowSearch : Nat) (p_script_bytes : Nat) (v_keptImages : Int32) (v_ledCount : Int32) (v_traceSum : Int64) (v_script_byteCount : Int32) (v_script_place : Int32) (v_script_token : Int32) (v_script_tokenStart : Int32) (v_script_tokenValue : Int32) (f_script_bytes : Nat → Int32) : va_W := [(p_this, .inr (4, [.ref p_script, .ref p_told, .ref p_draft, .ref p_course, .ref p_trial, .ref p_imageZero, .ref p_imageOne, .int v_keptImages, .ref p_ledDoughs, .ref p_ledOvens, .int v_ledCount, .ref p_rowSearch, .long v_traceSum])), (p_script, .inr (2, [.ref p_script_bytes, .int v_script_byteCount, .int v_script_place, .int v_script_token, .int v_script_tokenStart, .int v_script_tokenValue])), (p_script_bytes, .inl (E.2.1, 180, .inl f_script_bytes))]
set_option maxHeartbeats 4000000 in
set_option maxRecDepth 100000 in
theorem m_X4_type {l : Launch} (E : Ev) (p_this : Nat) (p_script : Nat) (p_told : Nat) (p_draft : Nat) (p_course : Nat) (p_trial : Nat) (p_imageZero : Nat) (p_imageOne : Nat) (p_ledDoughs : Nat) (p_ledOvens : Nat) (p_rowSearch : Nat) (p_script_bytes : Nat) (v_keptImages : Int32) (v_ledCount : Int32) (v_traceSum : Int64) (v_script_byteCount : Int32) (v_script_place : Int32) (v_script_token : Int32) (v_script_tokenStart : Int32) (v_script_tokenValue : Int32) (f_script_bytes : Nat → Int32) (x1 : Int32) (res : Int32 × Int32 × (Nat → Int32)) (hf : f_X4_type  v_script_byteCount f_script_bytes x1 = some res) : MutI l E 2 yX4_type cX4_type 2 .int [.ref p_this, .int x1] (w_X4_type E p_this p_script p_told p_draft p_course p_trial p_imageZero p_imageOne p_ledDoughs p_ledOvens p_rowSearch p_script_bytes v_keptImages v_ledCount v_traceSum v_script_byteCount v_script_place v_script_token v_script_tokenStart v_script_tokenValue f_script_bytes) (w_X4_type E p_this p_script p_told p_draft p_course p_trial p_imageZero p_imageOne p_ledDoughs p_ledOvens p_rowSearch p_script_bytes v_keptImages v_ledCount v_traceSum res.2.1 v_script_place v_script_token v_script_tokenStart v_script_tokenValue res.2.2) res.1 := by
  refine MutI.of (by decide) (Nat.le_of_ble_eq_true rfl) ?_
  intro p e s m args below meth c Q A X hK hA hret H locs ls hl hP hD hS
  obtain ⟨hx, hb, hml, hown, hts, hrt, hlk⟩ := id X
  have hl : lv_has ls 2 [(0, .ref p_this), (1, .int x1)] := hl
  unfold f_X4_type at hf
  refine lv_iload_n hx hb dX4_type_0 rfl (lv_at hl 1 rfl) ?_
  refine lv_if_lt (tgt := 11) hx hb dX4_type_1 (by decide) (fun c_1 => ?_) (fun c_1 => ?_)
  · replace hf := ot c_1 hf
    refine lv_iconst (v := (-1 : Int32)) hx hb dX4_type_11 (by decide) ?_
    obtain rfl := Option.some.inj hf
    exact hret H locs _ ls rfl hP hS dX4_type_12
  · replace hf := of c_1 hf
    refine lv_iload_n hx hb dX4_type_4 rfl (lv_at hl 1 rfl) ?_
    refine lv_sipush (v := (255 : Int32)) hx hb dX4_type_5 (by decide) ?_
    refine lv_icmp_le (tgt := 13) hx hb dX4_type_8 (by decide) (fun c_2 => ?_) (fun c_2 => ?_)
    · replace hf := ot c_2 hf
      refine lv_aload_n hx hb dX4_type_13 rfl (lv_at hl 0 rfl) ?_
      refine gf_RX4_12 X hK hP 0 rfl rfl dX4_type_14 ?_
      refine lv_iload_n hx hb dX4_type_17 rfl (lv_at hl 1 rfl) ?_
      obtain ⟨u_3, hu_3, hf⟩ := ob hf
      refine mV X hK hA hP hD hS hl.1 (m_X2_add (l := l) E p_script p_script_bytes v_script_byteCount v_script_place v_script_token v_script_tokenStart v_script_tokenValue f_script_bytes x1 u_3 hu_3) kRX4_56 [1, 2] rfl rfl (by simp only [w_X2_add, List.map]) rfl rfl rfl ⟨⟨(Nat.le_of_ble_eq_true rfl), (Nat.le_of_ble_eq_true rfl)⟩, Nat.zero_le _, Nat.zero_le _⟩ rfl rfl (Nat.le_of_ble_eq_true rfl) dX4_type_18 (fun H locs hP hD hS => ?_)
      have hP : va_P E.1 classes (w_X4_type E p_this p_script p_told p_draft p_course p_trial p_imageZero p_imageOne p_ledDoughs p_ledOvens p_rowSearch p_script_bytes v_keptImages v_ledCount v_traceSum u_3.2.1 v_script_place v_script_token v_script_tokenStart v_script_tokenValue u_3.2.2) H := hP
      have hD : va_D A (w_X4_type E p_this p_script p_told p_draft p_course p_trial p_imageZero p_imageOne p_ledDoughs p_ledOvens p_rowSearch p_script_bytes v_keptImages v_ledCount v_traceSum u_3.2.1 v_script_place v_script_token v_script_tokenStart v_script_tokenValue u_3.2.2) := hD
      refine lv_if_eq (tgt := 34) hx hb dX4_type_21 (by decide) (fun c_4 => ?_) (fun c_4 => ?_)
      · replace hf := ot c_4 hf
        refine lv_bipush (v := (-3 : Int32)) hx hb dX4_type_34 (by decide) ?_
        obtain rfl := Option.some.inj hf
        exact hret H locs _ ls rfl hP hS dX4_type_36
      · replace hf := of c_4 hf
        refine lv_aload_n hx hb dX4_type_24 rfl (lv_at hl 0 rfl) ?_
        refine gf_RX4_12 X hK hP 0 rfl rfl dX4_type_25 ?_
        obtain ⟨u_5, hu_5, hf⟩ := ob hf
        refine pV X hK hA hP hS hl.1 (m_X2_length (l := l) E p_script p_script_bytes u_3.2.1 v_script_place v_script_token v_script_tokenStart v_script_tokenValue  u_5 hu_5) kRX4_60 [1] rfl rfl rfl rfl ⟨⟨(Nat.le_of_ble_eq_true rfl), (Nat.le_of_ble_eq_true rfl)⟩, Nat.zero_le _, Nat.zero_le _⟩ rfl rfl (Nat.le_of_ble_eq_true rfl) dX4_type_28 (fun H locs hP hS => ?_)
        refine lv_goto (tgt := 36) hx hb dX4_type_31 (by decide) ?_
        obtain rfl := Option.some.inj hf
        exact hret H locs _ ls rfl hP hS dX4_type_36
    · replace hf := of c_2 hf
      refine lv_iconst (v := (-1 : Int32)) hx hb dX4_type_11 (by decide) ?_
      obtain rfl := Option.some.inj hf
      exact hret H locs _ ls rfl hP hS dX4_type_12

abbrev w_X4_clear (E : Ev) (p_this : Nat) (p_script : Nat) (p_told : Nat) (p_draft : Nat) (p_course : Nat) (p_trial : Nat) (p_imageZero : Nat) (p_imageOne : Nat) (p_ledDoughs : Nat) (p_ledOvens : Nat) (p_rowSearch : Nat) (p_script_bytes : Nat) (v_keptImages : Int32) (v_ledCount : Int32) (v_traceSum : Int64) (v_script_byteCount : Int32) (v_script_place : Int32) (v_script_token : Int32) (v_script_tokenStart : Int32) (v_script_tokenValue : Int32) : va_W := [(p_this, .inr (4, [.ref p_script, .ref p_told, .ref p_draft, .ref p_course, .ref p_trial, .ref p_imageZero, .ref p_imageOne, .int v_keptImages, .ref p_ledDoughs, .ref p_ledOvens, .int v_ledCount, .ref p_rowSearch, .long v_traceSum])), (p_script, .inr (2, [.ref p_script_bytes, .int v_script_byteCount, .int v_script_place, .int v_script_token, .int v_script_tokenStart, .int v_script_tokenValue]))]
set_option maxHeartbeats 4000000 in
set_option maxRecDepth 100000 in
theorem m_X4_clear {l : Launch} (E : Ev) (p_this : Nat) (p_script : Nat) (p_told : Nat) (p_draft : Nat) (p_course : Nat) (p_trial : Nat) (p_imageZero : Nat) (p_imageOne : Nat) (p_ledDoughs : Nat) (p_ledOvens : Nat) (p_rowSearch : Nat) (p_script_bytes : Nat) (v_keptImages : Int32) (v_ledCount : Int32) (v_traceSum : Int64) (v_script_byteCount : Int32) (v_script_place : Int32) (v_script_token : Int32) (v_script_tokenStart : Int32) (v_script_tokenValue : Int32)  (res : Int32 × Int32) (hf : f_X4_clear  v_script_byteCount  = some res) : MutI l E 2 yX4_clear cX4_clear 2 .int [.ref p_this] (w_X4_clear E p_this p_script p_told p_draft p_course p_trial p_imageZero p_imageOne p_ledDoughs p_ledOvens p_rowSearch p_script_bytes v_keptImages v_ledCount v_traceSum v_script_byteCount v_script_place v_script_token v_script_tokenStart v_script_tokenValue) (w_X4_clear E p_this p_script p_told p_draft p_course p_trial p_imageZero p_imageOne p_ledDoughs p_ledOvens p_rowSearch p_script_bytes v_keptImages v_ledCount v_traceSum res.2 v_script_place v_script_token v_script_tokenStart v_script_tokenValue) res.1 := by
  refine MutI.of (by decide) (Nat.le_of_ble_eq_true rfl) ?_
  intro p e s m args below meth c Q A X hK hA hret H locs ls hl hP hD hS
  obtain ⟨hx, hb, hml, hown, hts, hrt, hlk⟩ := id X
  have hl : lv_has ls 2 [(0, .ref p_this)] := hl
  unfold f_X4_clear at hf
  refine lv_aload_n hx hb dX4_clear_0 rfl (lv_at hl 0 rfl) ?_
  refine gf_RX4_12 X hK hP 0 rfl rfl dX4_clear_1 ?_
  obtain ⟨u_1, hu_1, hf⟩ := ob hf
  refine pV X hK hA hP hS hl.1 (m_X2_length (l := l) E p_script p_script_bytes v_script_byteCount v_script_place v_script_token v_script_tokenStart v_script_tokenValue  u_1 hu_1) kRX4_60 [1] rfl rfl rfl rfl ⟨⟨(Nat.le_of_ble_eq_true rfl), (Nat.le_of_ble_eq_true rfl)⟩, Nat.zero_le _, Nat.zero_le _⟩ rfl rfl (Nat.le_of_ble_eq_true rfl) dX4_clear_4 (fun H locs hP hS => ?_)
  refine lv_istore_n (lv' := [(1, .int u_1), (0, .ref p_this)]) hx hb dX4_clear_7 rfl hl (by decide) rfl (fun ls hl => ?_)
  refine lv_aload_n hx hb dX4_clear_8 rfl (lv_at hl 1 rfl) ?_
  refine gf_RX4_12 X hK hP 0 rfl rfl dX4_clear_9 ?_
  obtain ⟨u_2, hu_2, hf⟩ := ob hf
  refine mVv X hK hA hP hD hS hl.1 (m_X2_empty (l := l) E p_script p_script_bytes v_script_byteCount v_script_place v_script_token v_script_tokenStart v_script_tokenValue  u_2 hu_2) kRX4_64 [1] rfl rfl (by simp only [w_X2_empty, List.map]) rfl rfl rfl ⟨⟨(Nat.le_of_ble_eq_true rfl), (Nat.le_of_ble_eq_true rfl)⟩, Nat.zero_le _, Nat.zero_le _⟩ rfl rfl (Nat.le_of_ble_eq_true rfl) dX4_clear_12 (fun H locs hP hD hS => ?_)
  have hP : va_P E.1 classes (w_X4_clear E p_this p_script p_told p_draft p_course p_trial p_imageZero p_imageOne p_ledDoughs p_ledOvens p_rowSearch p_script_bytes v_keptImages v_ledCount v_traceSum u_2 v_script_place v_script_token v_script_tokenStart v_script_tokenValue) H := hP
  have hD : va_D A (w_X4_clear E p_this p_script p_told p_draft p_course p_trial p_imageZero p_imageOne p_ledDoughs p_ledOvens p_rowSearch p_script_bytes v_keptImages v_ledCount v_traceSum u_2 v_script_place v_script_token v_script_tokenStart v_script_tokenValue) := hD
  refine lv_iload_n hx hb dX4_clear_15 rfl (lv_at hl 0 rfl) ?_
  obtain rfl := Option.some.inj hf
  exact hret H locs _ ls rfl hP hS dX4_clear_16

abbrev w_X4_quarter (E : Ev) (p_this : Nat) (p_script : Nat) (p_told : Nat) (p_draft : Nat) (p_course : Nat) (p_trial : Nat) (p_imageZero : Nat) (p_imageOne : Nat) (p_ledDoughs : Nat) (p_ledOvens : Nat) (p_rowSearch : Nat) (p_script_bytes : Nat) (p_draft_ovenNumbers : Nat) (p_draft_doughNumbers : Nat) (p_course_rows : Nat) (r_told : Nat) (r_draft : Nat) (v_keptImages : Int32) (v_ledCount : Int32) (v_traceSum : Int64) (v_script_byteCount : Int32) (v_script_place : Int32) (v_script_token : Int32) (v_script_tokenStart : Int32) (v_script_tokenValue : Int32) (v_draft_ovenCount : Int32) (v_draft_doughCount : Int32) (v_course_knownSteps : Int32) (f_script_bytes : Nat → Int32) (f_draft_ovenNumbers : Nat → Int32) (f_draft_doughNumbers : Nat → Int32) (f_course_rows : Nat → Int32) : va_W := [(p_this, .inr (4, [.ref p_script, .ref r_told, .ref r_draft, .ref p_course, .ref p_trial, .ref p_imageZero, .ref p_imageOne, .int v_keptImages, .ref p_ledDoughs, .ref p_ledOvens, .int v_ledCount, .ref p_rowSearch, .long v_traceSum])), (p_script, .inr (2, [.ref p_script_bytes, .int v_script_byteCount, .int v_script_place, .int v_script_token, .int v_script_tokenStart, .int v_script_tokenValue])), (p_draft, .inr (3, [.ref p_draft_ovenNumbers, .ref p_draft_doughNumbers, .int v_draft_ovenCount, .int v_draft_doughCount])), (p_script_bytes, .inl (E.2.1, 180, .inl f_script_bytes)), (p_draft_ovenNumbers, .inl (E.2.1, 10, .inl f_draft_ovenNumbers)), (p_draft_doughNumbers, .inl (E.2.1, 30, .inl f_draft_doughNumbers)), (p_course, .inr (0, [.ref p_course_rows, .int v_course_knownSteps])), (p_course_rows, .inl (E.2.1, 154, .inl f_course_rows))]
set_option maxHeartbeats 4000000 in
set_option maxRecDepth 100000 in
theorem m_X4_quarter {l : Launch} (E : Ev) (p_this : Nat) (p_script : Nat) (p_told : Nat) (p_draft : Nat) (p_course : Nat) (p_trial : Nat) (p_imageZero : Nat) (p_imageOne : Nat) (p_ledDoughs : Nat) (p_ledOvens : Nat) (p_rowSearch : Nat) (p_script_bytes : Nat) (p_draft_ovenNumbers : Nat) (p_draft_doughNumbers : Nat) (p_course_rows : Nat) (v_keptImages : Int32) (v_ledCount : Int32) (v_traceSum : Int64) (v_script_byteCount : Int32) (v_script_place : Int32) (v_script_token : Int32) (v_script_tokenStart : Int32) (v_script_tokenValue : Int32) (v_draft_ovenCount : Int32) (v_draft_doughCount : Int32) (v_course_knownSteps : Int32) (f_script_bytes : Nat → Int32) (f_draft_ovenNumbers : Nat → Int32) (f_draft_doughNumbers : Nat → Int32) (f_course_rows : Nat → Int32)  (res : Int32 × Nat × Nat × Int32 × Int32 × Int32 × Int32 × Int32 × Int32 × Int32 × Int32 × Int32 × Int32 × (Nat → Int32) × (Nat → Int32) × (Nat → Int32)) (hf : f_X4_quarter  f_script_bytes p_told p_draft v_keptImages v_ledCount v_script_byteCount v_script_place v_script_token v_script_tokenStart v_script_tokenValue v_draft_ovenCount v_draft_doughCount v_course_knownSteps f_draft_ovenNumbers f_draft_doughNumbers f_course_rows  = some res) : MutI l E 7 yX4_quarter cX4_quarter 3 .int [.ref p_this] (w_X4_quarter E p_this p_script p_told p_draft p_course p_trial p_imageZero p_imageOne p_ledDoughs p_ledOvens p_rowSearch p_script_bytes p_draft_ovenNumbers p_draft_doughNumbers p_course_rows p_told p_draft v_keptImages v_ledCount v_traceSum v_script_byteCount v_script_place v_script_token v_script_tokenStart v_script_tokenValue v_draft_ovenCount v_draft_doughCount v_course_knownSteps f_script_bytes f_draft_ovenNumbers f_draft_doughNumbers f_course_rows) (w_X4_quarter E p_this p_script p_told p_draft p_course p_trial p_imageZero p_imageOne p_ledDoughs p_ledOvens p_rowSearch p_script_bytes p_draft_ovenNumbers p_draft_doughNumbers p_course_rows res.2.1 res.2.2.1 res.2.2.2.1 res.2.2.2.2.1 v_traceSum res.2.2.2.2.2.1 res.2.2.2.2.2.2.1 res.2.2.2.2.2.2.2.1 res.2.2.2.2.2.2.2.2.1 res.2.2.2.2.2.2.2.2.2.1 res.2.2.2.2.2.2.2.2.2.2.1 res.2.2.2.2.2.2.2.2.2.2.2.1 res.2.2.2.2.2.2.2.2.2.2.2.2.1 f_script_bytes res.2.2.2.2.2.2.2.2.2.2.2.2.2.1 res.2.2.2.2.2.2.2.2.2.2.2.2.2.2.1 res.2.2.2.2.2.2.2.2.2.2.2.2.2.2.2) res.1 := by
  refine MutI.of (by decide) (Nat.le_of_ble_eq_true rfl) ?_
  intro p e s m args below meth c Q A X hK hA hret H locs ls hl hP hD hS
  obtain ⟨hx, hb, hml, hown, hts, hrt, hlk⟩ := id X
  have hl : lv_has ls 3 [(0, .ref p_this)] := hl
  unfold f_X4_quarter at hf
  refine lv_aload_n hx hb dX4_quarter_0 rfl (lv_at hl 0 rfl) ?_
  refine gf_RX4_12 X hK hP 0 rfl rfl dX4_quarter_1 ?_
  refine lv_aload_n hx hb dX4_quarter_4 rfl (lv_at hl 0 rfl) ?_
  refine gf_RX4_23 X hK hP 0 rfl rfl dX4_quarter_5 ?_
  obtain ⟨u_1, hu_1, hf⟩ := ob hf
  refine mV X hK hA hP hD hS hl.1 (m_X2_read (l := l) E p_script p_script_bytes p_draft p_draft_ovenNumbers p_draft_doughNumbers v_script_byteCount v_script_place v_script_token v_script_tokenStart v_script_tokenValue v_draft_ovenCount v_draft_doughCount f_script_bytes f_draft_ovenNumbers f_draft_doughNumbers  u_1 hu_1) kRX4_67 [1, 2, 3, 4, 5] rfl rfl (by simp only [w_X2_read, List.map]) rfl rfl rfl ⟨⟨(Nat.le_of_ble_eq_true rfl), (Nat.le_of_ble_eq_true rfl)⟩, Nat.zero_le _, Nat.zero_le _⟩ rfl rfl (Nat.le_of_ble_eq_true rfl) dX4_quarter_8 (fun H locs hP hD hS => ?_)
  have hP : va_P E.1 classes (w_X4_quarter E p_this p_script p_told p_draft p_course p_trial p_imageZero p_imageOne p_ledDoughs p_ledOvens p_rowSearch p_script_bytes p_draft_ovenNumbers p_draft_doughNumbers p_course_rows p_told p_draft v_keptImages v_ledCount v_traceSum v_script_byteCount u_1.2.1 u_1.2.2.1 u_1.2.2.2.1 u_1.2.2.2.2.1 u_1.2.2.2.2.2.1 u_1.2.2.2.2.2.2.1 v_course_knownSteps f_script_bytes u_1.2.2.2.2.2.2.2.1 u_1.2.2.2.2.2.2.2.2 f_course_rows) H := hP
  have hD : va_D A (w_X4_quarter E p_this p_script p_told p_draft p_course p_trial p_imageZero p_imageOne p_ledDoughs p_ledOvens p_rowSearch p_script_bytes p_draft_ovenNumbers p_draft_doughNumbers p_course_rows p_told p_draft v_keptImages v_ledCount v_traceSum v_script_byteCount u_1.2.1 u_1.2.2.1 u_1.2.2.2.1 u_1.2.2.2.2.1 u_1.2.2.2.2.2.1 u_1.2.2.2.2.2.2.1 v_course_knownSteps f_script_bytes u_1.2.2.2.2.2.2.2.1 u_1.2.2.2.2.2.2.2.2 f_course_rows) := hD
  refine lv_istore_n (lv' := [(1, .int u_1.1), (0, .ref p_this)]) hx hb dX4_quarter_11 rfl hl (by decide) rfl (fun ls hl => ?_)
  refine lv_iload_n hx hb dX4_quarter_12 rfl (lv_at hl 0 rfl) ?_
  refine lv_if_ge (tgt := 18) hx hb dX4_quarter_13 (by decide) (fun c_2 => ?_) (fun c_2 => ?_)
  · replace hf := ot c_2 hf
    refine lv_aload_n hx hb dX4_quarter_18 rfl (lv_at hl 1 rfl) ?_
    refine gf_RX4_19 X hK hP 0 rfl rfl dX4_quarter_19 ?_
    refine lv_astore_n (lv' := [(2, .ref p_told), (1, .int u_1.1), (0, .ref p_this)]) hx hb dX4_quarter_22 rfl hl (by decide) rfl (fun ls hl => ?_)
    refine lv_aload_n hx hb dX4_quarter_23 rfl (lv_at hl 2 rfl) ?_
    refine lv_aload_n hx hb dX4_quarter_24 rfl (lv_at hl 2 rfl) ?_
    refine gf_RX4_23 X hK hP 0 rfl rfl dX4_quarter_25 ?_
    refine pf_RX4_19 X hK hP hD hS 0 rfl rfl dX4_quarter_28 (fun H locs hP hD hS => ?_)
    have hP : va_P E.1 classes (w_X4_quarter E p_this p_script p_told p_draft p_course p_trial p_imageZero p_imageOne p_ledDoughs p_ledOvens p_rowSearch p_script_bytes p_draft_ovenNumbers p_draft_doughNumbers p_course_rows p_draft p_draft v_keptImages v_ledCount v_traceSum v_script_byteCount u_1.2.1 u_1.2.2.1 u_1.2.2.2.1 u_1.2.2.2.2.1 u_1.2.2.2.2.2.1 u_1.2.2.2.2.2.2.1 v_course_knownSteps f_script_bytes u_1.2.2.2.2.2.2.2.1 u_1.2.2.2.2.2.2.2.2 f_course_rows) H := hP
    have hD : va_D A (w_X4_quarter E p_this p_script p_told p_draft p_course p_trial p_imageZero p_imageOne p_ledDoughs p_ledOvens p_rowSearch p_script_bytes p_draft_ovenNumbers p_draft_doughNumbers p_course_rows p_draft p_draft v_keptImages v_ledCount v_traceSum v_script_byteCount u_1.2.1 u_1.2.2.1 u_1.2.2.2.1 u_1.2.2.2.2.1 u_1.2.2.2.2.2.1 u_1.2.2.2.2.2.2.1 v_course_knownSteps f_script_bytes u_1.2.2.2.2.2.2.2.1 u_1.2.2.2.2.2.2.2.2 f_course_rows) := hD
    refine lv_aload_n hx hb dX4_quarter_31 rfl (lv_at hl 2 rfl) ?_
    refine lv_aload_n hx hb dX4_quarter_32 rfl (lv_at hl 0 rfl) ?_
    refine pf_RX4_23 X hK hP hD hS 0 rfl rfl dX4_quarter_33 (fun H locs hP hD hS => ?_)
    have hP : va_P E.1 classes (w_X4_quarter E p_this p_script p_told p_draft p_course p_trial p_imageZero p_imageOne p_ledDoughs p_ledOvens p_rowSearch p_script_bytes p_draft_ovenNumbers p_draft_doughNumbers p_course_rows p_draft p_told v_keptImages v_ledCount v_traceSum v_script_byteCount u_1.2.1 u_1.2.2.1 u_1.2.2.2.1 u_1.2.2.2.2.1 u_1.2.2.2.2.2.1 u_1.2.2.2.2.2.2.1 v_course_knownSteps f_script_bytes u_1.2.2.2.2.2.2.2.1 u_1.2.2.2.2.2.2.2.2 f_course_rows) H := hP
    have hD : va_D A (w_X4_quarter E p_this p_script p_told p_draft p_course p_trial p_imageZero p_imageOne p_ledDoughs p_ledOvens p_rowSearch p_script_bytes p_draft_ovenNumbers p_draft_doughNumbers p_course_rows p_draft p_told v_keptImages v_ledCount v_traceSum v_script_byteCount u_1.2.1 u_1.2.2.1 u_1.2.2.2.1 u_1.2.2.2.2.1 u_1.2.2.2.2.2.1 u_1.2.2.2.2.2.2.1 v_course_knownSteps f_script_bytes u_1.2.2.2.2.2.2.2.1 u_1.2.2.2.2.2.2.2.2 f_course_rows) := hD
    refine lv_aload_n hx hb dX4_quarter_36 rfl (lv_at hl 2 rfl) ?_
    refine gf_RX4_12 X hK hP 0 rfl rfl dX4_quarter_37 ?_
    obtain ⟨u_3, hu_3, hf⟩ := ob hf
    refine mVv X hK hA hP hD hS hl.1 (m_X2_empty (l := l) E p_script p_script_bytes v_script_byteCount u_1.2.1 u_1.2.2.1 u_1.2.2.2.1 u_1.2.2.2.2.1  u_3 hu_3) kRX4_64 [1] rfl rfl (by simp only [w_X2_empty, List.map]) rfl rfl rfl ⟨⟨(Nat.le_of_ble_eq_true rfl), (Nat.le_of_ble_eq_true rfl)⟩, Nat.zero_le _, Nat.zero_le _⟩ rfl rfl (Nat.le_of_ble_eq_true rfl) dX4_quarter_40 (fun H locs hP hD hS => ?_)
    have hP : va_P E.1 classes (w_X4_quarter E p_this p_script p_told p_draft p_course p_trial p_imageZero p_imageOne p_ledDoughs p_ledOvens p_rowSearch p_script_bytes p_draft_ovenNumbers p_draft_doughNumbers p_course_rows p_draft p_told v_keptImages v_ledCount v_traceSum u_3 u_1.2.1 u_1.2.2.1 u_1.2.2.2.1 u_1.2.2.2.2.1 u_1.2.2.2.2.2.1 u_1.2.2.2.2.2.2.1 v_course_knownSteps f_script_bytes u_1.2.2.2.2.2.2.2.1 u_1.2.2.2.2.2.2.2.2 f_course_rows) H := hP
    have hD : va_D A (w_X4_quarter E p_this p_script p_told p_draft p_course p_trial p_imageZero p_imageOne p_ledDoughs p_ledOvens p_rowSearch p_script_bytes p_draft_ovenNumbers p_draft_doughNumbers p_course_rows p_draft p_told v_keptImages v_ledCount v_traceSum u_3 u_1.2.1 u_1.2.2.1 u_1.2.2.2.1 u_1.2.2.2.2.1 u_1.2.2.2.2.2.1 u_1.2.2.2.2.2.2.1 v_course_knownSteps f_script_bytes u_1.2.2.2.2.2.2.2.1 u_1.2.2.2.2.2.2.2.2 f_course_rows) := hD
    refine lv_aload_n hx hb dX4_quarter_43 rfl (lv_at hl 2 rfl) ?_
    refine gf_RX4_29 X hK hP 0 rfl rfl dX4_quarter_44 ?_
    obtain ⟨u_4, hu_4, hf⟩ := ob hf
    refine mVv X hK hA hP hD hS hl.1 (m_X0_begin (l := l) E p_course p_course_rows v_course_knownSteps f_course_rows  u_4 hu_4) kRX4_71 [6, 7] rfl rfl (by simp only [w_X0_begin, List.map]) rfl rfl rfl ⟨⟨(Nat.le_of_ble_eq_true rfl), (Nat.le_of_ble_eq_true rfl)⟩, Nat.zero_le _, Nat.zero_le _⟩ rfl rfl (Nat.le_of_ble_eq_true rfl) dX4_quarter_47 (fun H locs hP hD hS => ?_)
    have hP : va_P E.1 classes (w_X4_quarter E p_this p_script p_told p_draft p_course p_trial p_imageZero p_imageOne p_ledDoughs p_ledOvens p_rowSearch p_script_bytes p_draft_ovenNumbers p_draft_doughNumbers p_course_rows p_draft p_told v_keptImages v_ledCount v_traceSum u_3 u_1.2.1 u_1.2.2.1 u_1.2.2.2.1 u_1.2.2.2.2.1 u_1.2.2.2.2.2.1 u_1.2.2.2.2.2.2.1 u_4.1 f_script_bytes u_1.2.2.2.2.2.2.2.1 u_1.2.2.2.2.2.2.2.2 u_4.2) H := hP
    have hD : va_D A (w_X4_quarter E p_this p_script p_told p_draft p_course p_trial p_imageZero p_imageOne p_ledDoughs p_ledOvens p_rowSearch p_script_bytes p_draft_ovenNumbers p_draft_doughNumbers p_course_rows p_draft p_told v_keptImages v_ledCount v_traceSum u_3 u_1.2.1 u_1.2.2.1 u_1.2.2.2.1 u_1.2.2.2.2.1 u_1.2.2.2.2.2.1 u_1.2.2.2.2.2.2.1 u_4.1 f_script_bytes u_1.2.2.2.2.2.2.2.1 u_1.2.2.2.2.2.2.2.2 u_4.2) := hD
    refine lv_aload_n hx hb dX4_quarter_50 rfl (lv_at hl 2 rfl) ?_
    refine lv_iconst (v := (0 : Int32)) hx hb dX4_quarter_51 (by decide) ?_
    refine pf_RX4_74 X hK hP hD hS 0 rfl rfl dX4_quarter_52 (fun H locs hP hD hS => ?_)
    have hP : va_P E.1 classes (w_X4_quarter E p_this p_script p_told p_draft p_course p_trial p_imageZero p_imageOne p_ledDoughs p_ledOvens p_rowSearch p_script_bytes p_draft_ovenNumbers p_draft_doughNumbers p_course_rows p_draft p_told (0 : Int32) v_ledCount v_traceSum u_3 u_1.2.1 u_1.2.2.1 u_1.2.2.2.1 u_1.2.2.2.2.1 u_1.2.2.2.2.2.1 u_1.2.2.2.2.2.2.1 u_4.1 f_script_bytes u_1.2.2.2.2.2.2.2.1 u_1.2.2.2.2.2.2.2.2 u_4.2) H := hP
    have hD : va_D A (w_X4_quarter E p_this p_script p_told p_draft p_course p_trial p_imageZero p_imageOne p_ledDoughs p_ledOvens p_rowSearch p_script_bytes p_draft_ovenNumbers p_draft_doughNumbers p_course_rows p_draft p_told (0 : Int32) v_ledCount v_traceSum u_3 u_1.2.1 u_1.2.2.1 u_1.2.2.2.1 u_1.2.2.2.2.1 u_1.2.2.2.2.2.1 u_1.2.2.2.2.2.2.1 u_4.1 f_script_bytes u_1.2.2.2.2.2.2.2.1 u_1.2.2.2.2.2.2.2.2 u_4.2) := hD
    refine lv_aload_n hx hb dX4_quarter_55 rfl (lv_at hl 2 rfl) ?_
    refine lv_iconst (v := (0 : Int32)) hx hb dX4_quarter_56 (by decide) ?_
    refine pf_RX4_78 X hK hP hD hS 0 rfl rfl dX4_quarter_57 (fun H locs hP hD hS => ?_)
    have hP : va_P E.1 classes (w_X4_quarter E p_this p_script p_told p_draft p_course p_trial p_imageZero p_imageOne p_ledDoughs p_ledOvens p_rowSearch p_script_bytes p_draft_ovenNumbers p_draft_doughNumbers p_course_rows p_draft p_told (0 : Int32) (0 : Int32) v_traceSum u_3 u_1.2.1 u_1.2.2.1 u_1.2.2.2.1 u_1.2.2.2.2.1 u_1.2.2.2.2.2.1 u_1.2.2.2.2.2.2.1 u_4.1 f_script_bytes u_1.2.2.2.2.2.2.2.1 u_1.2.2.2.2.2.2.2.2 u_4.2) H := hP
    have hD : va_D A (w_X4_quarter E p_this p_script p_told p_draft p_course p_trial p_imageZero p_imageOne p_ledDoughs p_ledOvens p_rowSearch p_script_bytes p_draft_ovenNumbers p_draft_doughNumbers p_course_rows p_draft p_told (0 : Int32) (0 : Int32) v_traceSum u_3 u_1.2.1 u_1.2.2.1 u_1.2.2.2.1 u_1.2.2.2.2.1 u_1.2.2.2.2.2.1 u_1.2.2.2.2.2.2.1 u_4.1 f_script_bytes u_1.2.2.2.2.2.2.2.1 u_1.2.2.2.2.2.2.2.2 u_4.2) := hD
    refine lv_iload_n hx hb dX4_quarter_60 rfl (lv_at hl 1 rfl) ?_
    obtain rfl := Option.some.inj hf
    exact hret H locs _ ls rfl hP hS dX4_quarter_61
  · replace hf := of c_2 hf
    refine lv_iload_n hx hb dX4_quarter_16 rfl (lv_at hl 0 rfl) ?_
    obtain rfl := Option.some.inj hf
    exact hret H locs _ ls rfl hP hS dX4_quarter_17

abbrev w_X4_oven (E : Ev) (p_this : Nat) (p_script : Nat) (p_told : Nat) (p_draft : Nat) (p_course : Nat) (p_trial : Nat) (p_imageZero : Nat) (p_imageOne : Nat) (p_ledDoughs : Nat) (p_ledOvens : Nat) (p_rowSearch : Nat) (p_told_ovenNumbers : Nat) (p_told_doughNumbers : Nat) (p_course_rows : Nat) (v_keptImages : Int32) (v_ledCount : Int32) (v_traceSum : Int64) (v_told_ovenCount : Int32) (v_told_doughCount : Int32) (v_course_knownSteps : Int32) (f_course_rows : Nat → Int32) (f_told_ovenNumbers : Nat → Int32) : va_W := [(p_this, .inr (4, [.ref p_script, .ref p_told, .ref p_draft, .ref p_course, .ref p_trial, .ref p_imageZero, .ref p_imageOne, .int v_keptImages, .ref p_ledDoughs, .ref p_ledOvens, .int v_ledCount, .ref p_rowSearch, .long v_traceSum])), (p_told, .inr (3, [.ref p_told_ovenNumbers, .ref p_told_doughNumbers, .int v_told_ovenCount, .int v_told_doughCount])), (p_course, .inr (0, [.ref p_course_rows, .int v_course_knownSteps])), (p_course_rows, .inl (E.2.1, 154, .inl f_course_rows)), (p_told_ovenNumbers, .inl (E.2.1, 10, .inl f_told_ovenNumbers))]
set_option maxHeartbeats 4000000 in
set_option maxRecDepth 100000 in
theorem m_X4_oven {l : Launch} (E : Ev) (p_this : Nat) (p_script : Nat) (p_told : Nat) (p_draft : Nat) (p_course : Nat) (p_trial : Nat) (p_imageZero : Nat) (p_imageOne : Nat) (p_ledDoughs : Nat) (p_ledOvens : Nat) (p_rowSearch : Nat) (p_told_ovenNumbers : Nat) (p_told_doughNumbers : Nat) (p_course_rows : Nat) (v_keptImages : Int32) (v_ledCount : Int32) (v_traceSum : Int64) (v_told_ovenCount : Int32) (v_told_doughCount : Int32) (v_course_knownSteps : Int32) (f_course_rows : Nat → Int32) (f_told_ovenNumbers : Nat → Int32) (x1 : Int32) (x2 : Int32) (res : Int32) (hf : f_X4_oven  v_told_ovenCount v_told_doughCount v_course_knownSteps f_course_rows f_told_ovenNumbers x1 x2 = some res) : PureI l E 5 yX4_oven cX4_oven 3 .int [.ref p_this, .int x1, .int x2] (w_X4_oven E p_this p_script p_told p_draft p_course p_trial p_imageZero p_imageOne p_ledDoughs p_ledOvens p_rowSearch p_told_ovenNumbers p_told_doughNumbers p_course_rows v_keptImages v_ledCount v_traceSum v_told_ovenCount v_told_doughCount v_course_knownSteps f_course_rows f_told_ovenNumbers) res := by
  refine PureI.of (by decide) (Nat.le_of_ble_eq_true rfl) ?_
  intro p e s m args below meth c Q A X hK hA hret H locs ls hl hP hS
  obtain ⟨hx, hb, hml, hown, hts, hrt, hlk⟩ := id X
  have hl : lv_has ls 3 [(0, .ref p_this), (1, .int x1), (2, .int x2)] := hl
  unfold f_X4_oven at hf
  refine lv_aload_n hx hb dX4_oven_0 rfl (lv_at hl 0 rfl) ?_
  refine gf_RX4_19 X hK hP 0 rfl rfl dX4_oven_1 ?_
  refine lv_iload_n hx hb dX4_oven_4 rfl (lv_at hl 1 rfl) ?_
  obtain ⟨u_1, hu_1, hf⟩ := ob hf
  refine pV X hK hA hP hS hl.1 (m_X3_hasOven (l := l) E p_told p_told_ovenNumbers p_told_doughNumbers v_told_ovenCount v_told_doughCount x1 u_1 hu_1) kRX4_81 [1] rfl rfl rfl rfl ⟨⟨(Nat.le_of_ble_eq_true rfl), (Nat.le_of_ble_eq_true rfl)⟩, Nat.zero_le _, Nat.zero_le _⟩ rfl rfl (Nat.le_of_ble_eq_true rfl) dX4_oven_5 (fun H locs hP hS => ?_)
  refine lv_if_ne (tgt := 14) hx hb dX4_oven_8 (by decide) (fun c_2 => ?_) (fun c_2 => ?_)
  · replace hf := of c_2 hf
    refine lv_iload_n hx hb dX4_oven_14 rfl (lv_at hl 2 rfl) ?_
    by_cases c_3 : x2 = 0
    · replace hf := ot c_3 hf
      refine lv_tableIn (off := 33) (tgt := 48) hx hb dX4_oven_15 (by rw [c_3]; decide) (by rw [c_3]; decide) (by rw [c_3]; rfl) (by decide) ?_
      refine lv_aload_n hx hb dX4_oven_48 rfl (lv_at hl 0 rfl) ?_
      refine gf_RX4_19 X hK hP 0 rfl rfl dX4_oven_49 ?_
      refine lv_iload_n hx hb dX4_oven_52 rfl (lv_at hl 1 rfl) ?_
      refine lv_iconst (v := (0 : Int32)) hx hb dX4_oven_53 (by decide) ?_
      obtain ⟨u_4, hu_4, hf⟩ := ob hf
      refine pV X hK hA hP hS hl.1 (m_X3_ofOven (l := l) E p_told p_told_ovenNumbers p_told_doughNumbers v_told_ovenCount v_told_doughCount f_told_ovenNumbers x1 (0 : Int32) u_4 hu_4) kRX4_85 [1, 4] rfl rfl rfl rfl ⟨⟨(Nat.le_of_ble_eq_true rfl), (Nat.le_of_ble_eq_true rfl)⟩, Nat.zero_le _, Nat.zero_le _⟩ rfl rfl (Nat.le_of_ble_eq_true rfl) dX4_oven_54 (fun H locs hP hS => ?_)
      obtain rfl := Option.some.inj hf
      exact hret H locs _ ls rfl hP hS dX4_oven_57
    · replace hf := of c_3 hf
      by_cases c_5 : x2 = 1
      · replace hf := ot c_5 hf
        refine lv_tableIn (off := 43) (tgt := 58) hx hb dX4_oven_15 (by rw [c_5]; decide) (by rw [c_5]; decide) (by rw [c_5]; rfl) (by decide) ?_
        refine lv_aload_n hx hb dX4_oven_58 rfl (lv_at hl 0 rfl) ?_
        refine gf_RX4_19 X hK hP 0 rfl rfl dX4_oven_59 ?_
        refine lv_iload_n hx hb dX4_oven_62 rfl (lv_at hl 1 rfl) ?_
        refine lv_iconst (v := (1 : Int32)) hx hb dX4_oven_63 (by decide) ?_
        obtain ⟨u_6, hu_6, hf⟩ := ob hf
        refine pV X hK hA hP hS hl.1 (m_X3_ofOven (l := l) E p_told p_told_ovenNumbers p_told_doughNumbers v_told_ovenCount v_told_doughCount f_told_ovenNumbers x1 (1 : Int32) u_6 hu_6) kRX4_85 [1, 4] rfl rfl rfl rfl ⟨⟨(Nat.le_of_ble_eq_true rfl), (Nat.le_of_ble_eq_true rfl)⟩, Nat.zero_le _, Nat.zero_le _⟩ rfl rfl (Nat.le_of_ble_eq_true rfl) dX4_oven_64 (fun H locs hP hS => ?_)
        refine lv_bipush (v := (9 : Int32)) hx hb dX4_oven_67 (by decide) ?_
        refine lv_isub hx hb dX4_oven_69 ?_
        obtain rfl := Option.some.inj hf
        exact hret H locs _ ls rfl hP hS dX4_oven_70
      · replace hf := of c_5 hf
        by_cases c_7 : x2 = 2
        · replace hf := ot c_7 hf
          refine lv_tableIn (off := 56) (tgt := 71) hx hb dX4_oven_15 (by rw [c_7]; decide) (by rw [c_7]; decide) (by rw [c_7]; rfl) (by decide) ?_
          refine lv_aload_n hx hb dX4_oven_71 rfl (lv_at hl 0 rfl) ?_
          refine gf_RX4_29 X hK hP 0 rfl rfl dX4_oven_72 ?_
          refine lv_aload_n hx hb dX4_oven_75 rfl (lv_at hl 0 rfl) ?_
          refine gf_RX4_19 X hK hP 0 rfl rfl dX4_oven_76 ?_
          refine lv_iload_n hx hb dX4_oven_79 rfl (lv_at hl 1 rfl) ?_
          obtain ⟨u_8, hu_8, hf⟩ := ob hf
          refine pV X hK hA hP hS hl.1 (m_X0_placedAt (l := l) E p_course p_course_rows p_told p_told_ovenNumbers p_told_doughNumbers v_course_knownSteps v_told_ovenCount v_told_doughCount f_course_rows x1 u_8 hu_8) kRX4_89 [2, 1, 3] rfl rfl rfl rfl ⟨⟨(Nat.le_of_ble_eq_true rfl), (Nat.le_of_ble_eq_true rfl)⟩, Nat.zero_le _, Nat.zero_le _⟩ rfl rfl (Nat.le_of_ble_eq_true rfl) dX4_oven_80 (fun H locs hP hS => ?_)
          obtain rfl := Option.some.inj hf
          exact hret H locs _ ls rfl hP hS dX4_oven_83
        · replace hf := of c_7 hf
          by_cases c_9 : x2 = 3
          · replace hf := ot c_9 hf
            refine lv_tableIn (off := 69) (tgt := 84) hx hb dX4_oven_15 (by rw [c_9]; decide) (by rw [c_9]; decide) (by rw [c_9]; rfl) (by decide) ?_
            refine lv_aload_n hx hb dX4_oven_84 rfl (lv_at hl 0 rfl) ?_
            refine gf_RX4_29 X hK hP 0 rfl rfl dX4_oven_85 ?_
            refine lv_aload_n hx hb dX4_oven_88 rfl (lv_at hl 0 rfl) ?_
            refine gf_RX4_19 X hK hP 0 rfl rfl dX4_oven_89 ?_
            refine lv_iload_n hx hb dX4_oven_92 rfl (lv_at hl 1 rfl) ?_
            obtain ⟨u_10, hu_10, hf⟩ := ob hf
            refine pV X hK hA hP hS hl.1 (m_X0_hot (l := l) E p_course p_course_rows p_told p_told_ovenNumbers p_told_doughNumbers v_course_knownSteps v_told_ovenCount v_told_doughCount f_course_rows f_told_ovenNumbers x1 u_10 hu_10) kRX4_93 [2, 1, 3, 4] rfl rfl rfl rfl ⟨⟨(Nat.le_of_ble_eq_true rfl), (Nat.le_of_ble_eq_true rfl)⟩, Nat.zero_le _, Nat.zero_le _⟩ rfl rfl (Nat.le_of_ble_eq_true rfl) dX4_oven_93 (fun H locs hP hS => ?_)
            obtain rfl := Option.some.inj hf
            exact hret H locs _ ls rfl hP hS dX4_oven_96
          · replace hf := of c_9 hf
            by_cases c_11 : x2 = 4
            · replace hf := ot c_11 hf
              refine lv_tableIn (off := 82) (tgt := 97) hx hb dX4_oven_15 (by rw [c_11]; decide) (by rw [c_11]; decide) (by rw [c_11]; rfl) (by decide) ?_
              refine lv_aload_n hx hb dX4_oven_97 rfl (lv_at hl 0 rfl) ?_
              refine gf_RX4_29 X hK hP 0 rfl rfl dX4_oven_98 ?_
              refine lv_iload_n hx hb dX4_oven_101 rfl (lv_at hl 1 rfl) ?_
              obtain ⟨u_12, hu_12, hf⟩ := ob hf
              refine pV X hK hA hP hS hl.1 (m_X0_isShut (l := l) E p_course p_course_rows v_course_knownSteps f_course_rows x1 u_12 hu_12) kRX4_96 [2, 3] rfl rfl rfl rfl ⟨⟨(Nat.le_of_ble_eq_true rfl), (Nat.le_of_ble_eq_true rfl)⟩, Nat.zero_le _, Nat.zero_le _⟩ rfl rfl (Nat.le_of_ble_eq_true rfl) dX4_oven_102 (fun H locs hP hS => ?_)
              refine lv_if_eq (tgt := 112) hx hb dX4_oven_105 (by decide) (fun c_13 => ?_) (fun c_13 => ?_)
              · replace hf := ot c_13 hf
                refine lv_iconst (v := (0 : Int32)) hx hb dX4_oven_112 (by decide) ?_
                obtain rfl := Option.some.inj hf
                exact hret H locs _ ls rfl hP hS dX4_oven_113
              · replace hf := of c_13 hf
                refine lv_iconst (v := (1 : Int32)) hx hb dX4_oven_108 (by decide) ?_
                refine lv_goto (tgt := 113) hx hb dX4_oven_109 (by decide) ?_
                obtain rfl := Option.some.inj hf
                exact hret H locs _ ls rfl hP hS dX4_oven_113
            · replace hf := of c_11 hf
              refine lv_tableOut (tgt := 114) hx hb dX4_oven_15 (by
                  have e_3 := lv_neT c_3 (show (0 : Int32).toInt = 0 by decide)
                  have e_5 := lv_neT c_5 (show (1 : Int32).toInt = 1 by decide)
                  have e_7 := lv_neT c_7 (show (2 : Int32).toInt = 2 by decide)
                  have e_9 := lv_neT c_9 (show (3 : Int32).toInt = 3 by decide)
                  have e_11 := lv_neT c_11 (show (4 : Int32).toInt = 4 by decide)
                  omega) (by decide) ?_
              refine lv_ldc hx hb hown (hts _ q304) dX4_oven_114 ?_
              obtain rfl := Option.some.inj hf
              exact hret H locs _ ls rfl hP hS dX4_oven_116
  · replace hf := ot c_2 hf
    refine lv_ldc hx hb hown (hts _ q304) dX4_oven_11 ?_
    obtain rfl := Option.some.inj hf
    exact hret H locs _ ls rfl hP hS dX4_oven_13

abbrev w_X4_isOut (E : Ev) (p_this : Nat) (p_script : Nat) (p_told : Nat) (p_draft : Nat) (p_course : Nat) (p_trial : Nat) (p_imageZero : Nat) (p_imageOne : Nat) (p_ledDoughs : Nat) (p_ledOvens : Nat) (p_rowSearch : Nat) (p_course_rows : Nat) (v_keptImages : Int32) (v_ledCount : Int32) (v_traceSum : Int64) (v_course_knownSteps : Int32) (f_course_rows : Nat → Int32) : va_W := [(p_this, .inr (4, [.ref p_script, .ref p_told, .ref p_draft, .ref p_course, .ref p_trial, .ref p_imageZero, .ref p_imageOne, .int v_keptImages, .ref p_ledDoughs, .ref p_ledOvens, .int v_ledCount, .ref p_rowSearch, .long v_traceSum])), (p_course, .inr (0, [.ref p_course_rows, .int v_course_knownSteps])), (p_course_rows, .inl (E.2.1, 154, .inl f_course_rows))]
set_option maxHeartbeats 4000000 in
set_option maxRecDepth 100000 in
theorem m_X4_isOut {l : Launch} (E : Ev) (p_this : Nat) (p_script : Nat) (p_told : Nat) (p_draft : Nat) (p_course : Nat) (p_trial : Nat) (p_imageZero : Nat) (p_imageOne : Nat) (p_ledDoughs : Nat) (p_ledOvens : Nat) (p_rowSearch : Nat) (p_course_rows : Nat) (v_keptImages : Int32) (v_ledCount : Int32) (v_traceSum : Int64) (v_course_knownSteps : Int32) (f_course_rows : Nat → Int32) (x1 : Int32) (res : Int32) (hf : f_X4_isOut  v_course_knownSteps f_course_rows x1 = some res) : PureI l E 3 yX4_isOut cX4_isOut 2 .boolean [.ref p_this, .int x1] (w_X4_isOut E p_this p_script p_told p_draft p_course p_trial p_imageZero p_imageOne p_ledDoughs p_ledOvens p_rowSearch p_course_rows v_keptImages v_ledCount v_traceSum v_course_knownSteps f_course_rows) res := by
  refine PureI.of (by decide) (Nat.le_of_ble_eq_true rfl) ?_
  intro p e s m args below meth c Q A X hK hA hret H locs ls hl hP hS
  obtain ⟨hx, hb, hml, hown, hts, hrt, hlk⟩ := id X
  have hl : lv_has ls 2 [(0, .ref p_this), (1, .int x1)] := hl
  unfold f_X4_isOut at hf
  refine lv_aload_n hx hb dX4_isOut_0 rfl (lv_at hl 0 rfl) ?_
  refine gf_RX4_29 X hK hP 0 rfl rfl dX4_isOut_1 ?_
  refine lv_iload_n hx hb dX4_isOut_4 rfl (lv_at hl 1 rfl) ?_
  obtain ⟨u_1, hu_1, hf⟩ := ob hf
  refine pV X hK hA hP hS hl.1 (m_X0_place (l := l) E p_course p_course_rows v_course_knownSteps f_course_rows x1 u_1 hu_1) kRX4_105 [1, 2] rfl rfl rfl rfl ⟨⟨(Nat.le_of_ble_eq_true rfl), (Nat.le_of_ble_eq_true rfl)⟩, Nat.zero_le _, Nat.zero_le _⟩ rfl rfl (Nat.le_of_ble_eq_true rfl) dX4_isOut_5 (fun H locs hP hS => ?_)
  refine lv_bipush (v := (-9 : Int32)) hx hb dX4_isOut_8 (by decide) ?_
  refine lv_icmp_ne (tgt := 17) hx hb dX4_isOut_10 (by decide) (fun c_2 => ?_) (fun c_2 => ?_)
  · replace hf := of c_2 hf
    refine lv_iconst (v := (0 : Int32)) hx hb dX4_isOut_17 (by decide) ?_
    obtain rfl := Option.some.inj hf
    exact hret H locs _ ls nar0 hP hS dX4_isOut_18
  · replace hf := ot c_2 hf
    refine lv_iconst (v := (1 : Int32)) hx hb dX4_isOut_13 (by decide) ?_
    refine lv_goto (tgt := 18) hx hb dX4_isOut_14 (by decide) ?_
    obtain rfl := Option.some.inj hf
    exact hret H locs _ ls nar1 hP hS dX4_isOut_18

abbrev w_X4_liking (E : Ev) (p_this : Nat) (p_script : Nat) (p_told : Nat) (p_draft : Nat) (p_course : Nat) (p_trial : Nat) (p_imageZero : Nat) (p_imageOne : Nat) (p_ledDoughs : Nat) (p_ledOvens : Nat) (p_rowSearch : Nat) (p_told_ovenNumbers : Nat) (p_told_doughNumbers : Nat) (v_keptImages : Int32) (v_ledCount : Int32) (v_traceSum : Int64) (v_told_ovenCount : Int32) (v_told_doughCount : Int32) (f_told_doughNumbers : Nat → Int32) : va_W := [(p_this, .inr (4, [.ref p_script, .ref p_told, .ref p_draft, .ref p_course, .ref p_trial, .ref p_imageZero, .ref p_imageOne, .int v_keptImages, .ref p_ledDoughs, .ref p_ledOvens, .int v_ledCount, .ref p_rowSearch, .long v_traceSum])), (p_told, .inr (3, [.ref p_told_ovenNumbers, .ref p_told_doughNumbers, .int v_told_ovenCount, .int v_told_doughCount])), (p_told_doughNumbers, .inl (E.2.1, 30, .inl f_told_doughNumbers))]
set_option maxHeartbeats 4000000 in
set_option maxRecDepth 100000 in
theorem m_X4_liking {l : Launch} (E : Ev) (p_this : Nat) (p_script : Nat) (p_told : Nat) (p_draft : Nat) (p_course : Nat) (p_trial : Nat) (p_imageZero : Nat) (p_imageOne : Nat) (p_ledDoughs : Nat) (p_ledOvens : Nat) (p_rowSearch : Nat) (p_told_ovenNumbers : Nat) (p_told_doughNumbers : Nat) (v_keptImages : Int32) (v_ledCount : Int32) (v_traceSum : Int64) (v_told_ovenCount : Int32) (v_told_doughCount : Int32) (f_told_doughNumbers : Nat → Int32) (x1 : Int32) (x2 : Int32) (x3 : Int32) (res : Int32) (hf : f_X4_liking  v_told_doughCount f_told_doughNumbers x1 x2 x3 = some res) : PureI l E 3 yX4_liking cX4_liking 6 .int [.ref p_this, .int x1, .int x2, .int x3] (w_X4_liking E p_this p_script p_told p_draft p_course p_trial p_imageZero p_imageOne p_ledDoughs p_ledOvens p_rowSearch p_told_ovenNumbers p_told_doughNumbers v_keptImages v_ledCount v_traceSum v_told_ovenCount v_told_doughCount f_told_doughNumbers) res := by
  refine PureI.of (by decide) (Nat.le_of_ble_eq_true rfl) ?_
  intro p e s m args below meth c Q A X hK hA hret H locs ls hl hP hS
  obtain ⟨hx, hb, hml, hown, hts, hrt, hlk⟩ := id X
  have hl : lv_has ls 6 [(0, .ref p_this), (1, .int x1), (2, .int x2), (3, .int x3)] := hl
  unfold f_X4_liking at hf
  refine lv_aload_n hx hb dX4_liking_0 rfl (lv_at hl 0 rfl) ?_
  refine gf_RX4_19 X hK hP 0 rfl rfl dX4_liking_1 ?_
  refine lv_iload_n hx hb dX4_liking_4 rfl (lv_at hl 1 rfl) ?_
  refine lv_iconst (v := (0 : Int32)) hx hb dX4_liking_5 (by decide) ?_
  obtain ⟨u_1, hu_1, hf⟩ := ob hf
  refine pV X hK hA hP hS hl.1 (m_X3_ofDough (l := l) E p_told p_told_ovenNumbers p_told_doughNumbers v_told_ovenCount v_told_doughCount f_told_doughNumbers x1 (0 : Int32) u_1 hu_1) kRX4_102 [1, 2] rfl rfl rfl rfl ⟨⟨(Nat.le_of_ble_eq_true rfl), (Nat.le_of_ble_eq_true rfl)⟩, Nat.zero_le _, Nat.zero_le _⟩ rfl rfl (Nat.le_of_ble_eq_true rfl) dX4_liking_6 (fun H locs hP hS => ?_)
  refine lv_istore (lv' := [(4, .int u_1), (0, .ref p_this), (1, .int x1), (2, .int x2), (3, .int x3)]) hx hb dX4_liking_9 hl (by decide) rfl (fun ls hl => ?_)
  refine lv_aload_n hx hb dX4_liking_11 rfl (lv_at hl 1 rfl) ?_
  refine gf_RX4_19 X hK hP 0 rfl rfl dX4_liking_12 ?_
  refine lv_iload_n hx hb dX4_liking_15 rfl (lv_at hl 2 rfl) ?_
  refine lv_iconst (v := (1 : Int32)) hx hb dX4_liking_16 (by decide) ?_
  obtain ⟨u_2, hu_2, hf⟩ := ob hf
  refine pV X hK hA hP hS hl.1 (m_X3_ofDough (l := l) E p_told p_told_ovenNumbers p_told_doughNumbers v_told_ovenCount v_told_doughCount f_told_doughNumbers x1 (1 : Int32) u_2 hu_2) kRX4_102 [1, 2] rfl rfl rfl rfl ⟨⟨(Nat.le_of_ble_eq_true rfl), (Nat.le_of_ble_eq_true rfl)⟩, Nat.zero_le _, Nat.zero_le _⟩ rfl rfl (Nat.le_of_ble_eq_true rfl) dX4_liking_17 (fun H locs hP hS => ?_)
  refine lv_istore (lv' := [(5, .int u_2), (4, .int u_1), (0, .ref p_this), (1, .int x1), (2, .int x2), (3, .int x3)]) hx hb dX4_liking_20 hl (by decide) rfl (fun ls hl => ?_)
  refine lv_iload hx hb dX4_liking_22 (lv_at hl 1 rfl) ?_
  refine lv_iload_n hx hb dX4_liking_24 rfl (lv_at hl 4 rfl) ?_
  refine lv_imul hx hb dX4_liking_25 ?_
  refine lv_iload hx hb dX4_liking_26 (lv_at hl 0 rfl) ?_
  refine lv_iload_n hx hb dX4_liking_28 rfl (lv_at hl 5 rfl) ?_
  refine lv_imul hx hb dX4_liking_29 ?_
  refine lv_iadd hx hb dX4_liking_30 ?_
  refine lv_iload hx hb dX4_liking_31 (lv_at hl 1 rfl) ?_
  refine lv_iload_n hx hb dX4_liking_33 rfl (lv_at hl 5 rfl) ?_
  refine lv_imul hx hb dX4_liking_34 ?_
  refine lv_isub hx hb dX4_liking_35 ?_
  refine lv_iload hx hb dX4_liking_36 (lv_at hl 0 rfl) ?_
  refine lv_iload_n hx hb dX4_liking_38 rfl (lv_at hl 4 rfl) ?_
  refine lv_imul hx hb dX4_liking_39 ?_
  refine lv_isub hx hb dX4_liking_40 ?_
  obtain rfl := Option.some.inj hf
  exact hret H locs _ ls rfl hP hS dX4_liking_41

abbrev w_X4_smellOf (E : Ev) (p_this : Nat) (p_script : Nat) (p_told : Nat) (p_draft : Nat) (p_course : Nat) (p_trial : Nat) (p_imageZero : Nat) (p_imageOne : Nat) (p_ledDoughs : Nat) (p_ledOvens : Nat) (p_rowSearch : Nat) (p_told_ovenNumbers : Nat) (p_told_doughNumbers : Nat) (p_course_rows : Nat) (v_keptImages : Int32) (v_ledCount : Int32) (v_traceSum : Int64) (v_told_ovenCount : Int32) (v_told_doughCount : Int32) (v_course_knownSteps : Int32) (f_told_ovenNumbers : Nat → Int32) (f_course_rows : Nat → Int32) (f_told_doughNumbers : Nat → Int32) : va_W := [(p_this, .inr (4, [.ref p_script, .ref p_told, .ref p_draft, .ref p_course, .ref p_trial, .ref p_imageZero, .ref p_imageOne, .int v_keptImages, .ref p_ledDoughs, .ref p_ledOvens, .int v_ledCount, .ref p_rowSearch, .long v_traceSum])), (p_told, .inr (3, [.ref p_told_ovenNumbers, .ref p_told_doughNumbers, .int v_told_ovenCount, .int v_told_doughCount])), (p_told_ovenNumbers, .inl (E.2.1, 10, .inl f_told_ovenNumbers)), (p_course, .inr (0, [.ref p_course_rows, .int v_course_knownSteps])), (p_course_rows, .inl (E.2.1, 154, .inl f_course_rows)), (p_told_doughNumbers, .inl (E.2.1, 30, .inl f_told_doughNumbers))]
set_option maxHeartbeats 4000000 in
set_option maxRecDepth 100000 in
theorem b_X4_smellOf_17 {p : Program} {l : Launch} {e : Env} {s : State} {m : MethodId} {args : Array Value} {below : List Frame} {meth : Method} {c : Code} {Q : State → Prop} {A : Nat → Prop} (E : Ev) (p_this : Nat) (p_script : Nat) (p_told : Nat) (p_draft : Nat) (p_course : Nat) (p_trial : Nat) (p_imageZero : Nat) (p_imageOne : Nat) (p_ledDoughs : Nat) (p_ledOvens : Nat) (p_rowSearch : Nat) (p_told_ovenNumbers : Nat) (p_told_doughNumbers : Nat) (p_course_rows : Nat) (v_keptImages : Int32) (v_ledCount : Int32) (v_traceSum : Int64) (v_told_ovenCount : Int32) (v_told_doughCount : Int32) (v_course_knownSteps : Int32) (f_told_ovenNumbers : Nat → Int32) (f_course_rows : Nat → Int32) (f_told_doughNumbers : Nat → Int32) (res : Int32) (X : Cx p s m args meth c cX4_smellOf 6 RX4 (some .int)) (hK : KK E A s s.heap) (hA : ∀ q, s.heap.size ≤ q → A q) (hret : RetI p l e (RM 4) s m args below meth c Q E A cX4_smellOf .int (w_X4_smellOf E p_this p_script p_told p_draft p_course p_trial p_imageZero p_imageOne p_ledDoughs p_ledOvens p_rowSearch p_told_ovenNumbers p_told_doughNumbers p_course_rows v_keptImages v_ledCount v_traceSum v_told_ovenCount v_told_doughCount v_course_knownSteps f_told_ovenNumbers f_course_rows f_told_doughNumbers) res)  : ∀ (n : Nat) (x1 : Int32) (x2 : Int32) (x3 : Int32) (x4 : Int32) (x5 : Int32), f_X4_smellOf_17 v_told_ovenCount v_told_doughCount v_course_knownSteps f_told_ovenNumbers f_course_rows f_told_doughNumbers   n x1 x2 x3 x4 x5 = some res → ∀ (H : Heap) (locs : List Loc) (ls : Array Slot), lv_has ls 6 [(0, .ref p_this), (1, .int x1), (2, .int x2), (3, .int x3), (4, .int x4), (5, .int x5)] → va_P E.1 classes (w_X4_smellOf E p_this p_script p_told p_draft p_course p_trial p_imageZero p_imageOne p_ledDoughs p_ledOvens p_rowSearch p_told_ovenNumbers p_told_doughNumbers p_course_rows v_keptImages v_ledCount v_traceSum v_told_ovenCount v_told_doughCount v_course_knownSteps f_told_ovenNumbers f_course_rows f_told_doughNumbers) H → va_S A s.heap H locs → W p l e (RM 4) s m args below meth c H locs 0 0 Q (F0 m 17 ls []) := by
  obtain ⟨hx, hb, hml, hown, hts, hrt, hlk⟩ := id X
  intro n
  induction n with
  | zero => intro x1 x2 x3 x4 x5 hf; exact absurd hf (by simp [f_X4_smellOf_17])
  | succ n ih =>
    intro x1 x2 x3 x4 x5 hf H locs ls hl hP hS
    unfold f_X4_smellOf_17 at hf
    refine lv_iload hx hb dX4_smellOf_17 (lv_at hl 5 rfl) ?_
    refine lv_aload_n hx hb dX4_smellOf_19 rfl (lv_at hl 0 rfl) ?_
    refine gf_RX4_19 X hK hP 0 rfl rfl dX4_smellOf_20 ?_
    obtain ⟨u_1, hu_1, hf⟩ := ob hf
    refine pV X hK hA hP hS hl.1 (m_X3_doughs (l := l) E p_told p_told_ovenNumbers p_told_doughNumbers v_told_ovenCount v_told_doughCount  u_1 hu_1) kRX4_165 [1] rfl rfl rfl rfl ⟨⟨(Nat.le_of_ble_eq_true rfl), (Nat.le_of_ble_eq_true rfl)⟩, Nat.zero_le _, Nat.zero_le _⟩ rfl rfl (Nat.le_of_ble_eq_true rfl) dX4_smellOf_23 (fun H locs hP hS => ?_)
    refine lv_icmp_ge (tgt := 78) hx hb dX4_smellOf_26 (by decide) (fun c_2 => ?_) (fun c_2 => ?_)
    · replace hf := ot c_2 hf
      refine lv_iload_n hx hb dX4_smellOf_78 rfl (lv_at hl 3 rfl) ?_
      refine lv_iload_n hx hb dX4_smellOf_79 rfl (lv_at hl 1 rfl) ?_
      refine lv_icmp_ne (tgt := 97) hx hb dX4_smellOf_80 (by decide) (fun c_3 => ?_) (fun c_3 => ?_)
      · replace hf := of c_3 hf
        refine lv_iload hx hb dX4_smellOf_97 (lv_at hl 4 rfl) ?_
        obtain rfl := Option.some.inj hf
        exact hret H locs _ ls rfl hP hS dX4_smellOf_99
      · replace hf := ot c_3 hf
        refine lv_iload hx hb dX4_smellOf_83 (lv_at hl 4 rfl) ?_
        refine lv_aload_n hx hb dX4_smellOf_85 rfl (lv_at hl 0 rfl) ?_
        refine lv_iload_n hx hb dX4_smellOf_86 rfl (lv_at hl 2 rfl) ?_
        refine lv_bipush (v := (9 : Int32)) hx hb dX4_smellOf_87 (by decide) ?_
        refine lv_iconst (v := (0 : Int32)) hx hb dX4_smellOf_89 (by decide) ?_
        obtain ⟨u_4, hu_4, hf⟩ := ob hf
        refine pV X hK hA hP hS hl.1 (m_X4_liking (l := l) E p_this p_script p_told p_draft p_course p_trial p_imageZero p_imageOne p_ledDoughs p_ledOvens p_rowSearch p_told_ovenNumbers p_told_doughNumbers v_keptImages v_ledCount v_traceSum v_told_ovenCount v_told_doughCount f_told_doughNumbers x2 (9 : Int32) (0 : Int32) u_4 hu_4) kRX4_225 [0, 1, 5] rfl rfl rfl rfl ⟨⟨(Nat.le_of_ble_eq_true rfl), (Nat.le_of_ble_eq_true rfl)⟩, Nat.zero_le _, Nat.zero_le _⟩ rfl rfl (Nat.le_of_ble_eq_true rfl) dX4_smellOf_90 (fun H locs hP hS => ?_)
        refine lv_iadd hx hb dX4_smellOf_93 ?_
        refine lv_goto (tgt := 99) hx hb dX4_smellOf_94 (by decide) ?_
        obtain rfl := Option.some.inj hf
        exact hret H locs _ ls rfl hP hS dX4_smellOf_99
    · replace hf := of c_2 hf
      refine lv_aload_n hx hb dX4_smellOf_29 rfl (lv_at hl 0 rfl) ?_
      refine gf_RX4_29 X hK hP 0 rfl rfl dX4_smellOf_30 ?_
      refine lv_iload hx hb dX4_smellOf_33 (lv_at hl 5 rfl) ?_
      obtain ⟨u_5, hu_5, hf⟩ := ob hf
      refine pV X hK hA hP hS hl.1 (m_X0_place (l := l) E p_course p_course_rows v_course_knownSteps f_course_rows x5 u_5 hu_5) kRX4_105 [3, 4] rfl rfl rfl rfl ⟨⟨(Nat.le_of_ble_eq_true rfl), (Nat.le_of_ble_eq_true rfl)⟩, Nat.zero_le _, Nat.zero_le _⟩ rfl rfl (Nat.le_of_ble_eq_true rfl) dX4_smellOf_35 (fun H locs hP hS => ?_)
      refine lv_iload_n hx hb dX4_smellOf_38 rfl (lv_at hl 1 rfl) ?_
      refine lv_icmp_ne (tgt := 72) hx hb dX4_smellOf_39 (by decide) (fun c_6 => ?_) (fun c_6 => ?_)
      · replace hf := of c_6 hf
        refine lv_iinc (v := (x5 + (1 : Int32))) (lv' := [(5, .int (x5 + (1 : Int32))), (0, .ref p_this), (1, .int x1), (2, .int x2), (3, .int x3), (4, .int x4)]) hx hb dX4_smellOf_72 hl (k := 5) rfl rfl (by decide) rfl (fun ls hl => ?_)
        refine lv_goto (tgt := 17) hx hb dX4_smellOf_75 (by decide) ?_
        exact ih x1 x2 x3 x4 (x5 + (1 : Int32)) hf H locs ls (lv_sub hl [1, 2, 3, 4, 5, 0] rfl) hP hS
      · replace hf := ot c_6 hf
        refine lv_iload hx hb dX4_smellOf_42 (lv_at hl 4 rfl) ?_
        refine lv_aload_n hx hb dX4_smellOf_44 rfl (lv_at hl 0 rfl) ?_
        refine lv_iload_n hx hb dX4_smellOf_45 rfl (lv_at hl 2 rfl) ?_
        refine lv_aload_n hx hb dX4_smellOf_46 rfl (lv_at hl 0 rfl) ?_
        refine gf_RX4_19 X hK hP 0 rfl rfl dX4_smellOf_47 ?_
        refine lv_iload hx hb dX4_smellOf_50 (lv_at hl 5 rfl) ?_
        refine lv_iconst (v := (0 : Int32)) hx hb dX4_smellOf_52 (by decide) ?_
        obtain ⟨u_7, hu_7, hf⟩ := ob hf
        refine pV X hK hA hP hS hl.1 (m_X3_ofDough (l := l) E p_told p_told_ovenNumbers p_told_doughNumbers v_told_ovenCount v_told_doughCount f_told_doughNumbers x5 (0 : Int32) u_7 hu_7) kRX4_102 [1, 5] rfl rfl rfl rfl ⟨⟨(Nat.le_of_ble_eq_true rfl), (Nat.le_of_ble_eq_true rfl)⟩, Nat.zero_le _, Nat.zero_le _⟩ rfl rfl (Nat.le_of_ble_eq_true rfl) dX4_smellOf_53 (fun H locs hP hS => ?_)
        refine lv_aload_n hx hb dX4_smellOf_56 rfl (lv_at hl 0 rfl) ?_
        refine gf_RX4_19 X hK hP 0 rfl rfl dX4_smellOf_57 ?_
        refine lv_iload hx hb dX4_smellOf_60 (lv_at hl 5 rfl) ?_
        refine lv_iconst (v := (1 : Int32)) hx hb dX4_smellOf_62 (by decide) ?_
        obtain ⟨u_8, hu_8, hf⟩ := ob hf
        refine pV X hK hA hP hS hl.1 (m_X3_ofDough (l := l) E p_told p_told_ovenNumbers p_told_doughNumbers v_told_ovenCount v_told_doughCount f_told_doughNumbers x5 (1 : Int32) u_8 hu_8) kRX4_102 [1, 5] rfl rfl rfl rfl ⟨⟨(Nat.le_of_ble_eq_true rfl), (Nat.le_of_ble_eq_true rfl)⟩, Nat.zero_le _, Nat.zero_le _⟩ rfl rfl (Nat.le_of_ble_eq_true rfl) dX4_smellOf_63 (fun H locs hP hS => ?_)
        obtain ⟨u_9, hu_9, hf⟩ := ob hf
        refine pV X hK hA hP hS hl.1 (m_X4_liking (l := l) E p_this p_script p_told p_draft p_course p_trial p_imageZero p_imageOne p_ledDoughs p_ledOvens p_rowSearch p_told_ovenNumbers p_told_doughNumbers v_keptImages v_ledCount v_traceSum v_told_ovenCount v_told_doughCount f_told_doughNumbers x2 u_7 u_8 u_9 hu_9) kRX4_225 [0, 1, 5] rfl rfl rfl rfl ⟨⟨(Nat.le_of_ble_eq_true rfl), (Nat.le_of_ble_eq_true rfl)⟩, Nat.zero_le _, Nat.zero_le _⟩ rfl rfl (Nat.le_of_ble_eq_true rfl) dX4_smellOf_66 (fun H locs hP hS => ?_)
        refine lv_iadd hx hb dX4_smellOf_69 ?_
        refine lv_istore (lv' := [(4, .int (x4 + u_9)), (0, .ref p_this), (1, .int x1), (2, .int x2), (3, .int x3), (5, .int x5)]) hx hb dX4_smellOf_70 hl (by decide) rfl (fun ls hl => ?_)
        refine lv_iinc (v := (x5 + (1 : Int32))) (lv' := [(5, .int (x5 + (1 : Int32))), (4, .int (x4 + u_9)), (0, .ref p_this), (1, .int x1), (2, .int x2), (3, .int x3)]) hx hb dX4_smellOf_72 hl (k := 5) rfl rfl (by decide) rfl (fun ls hl => ?_)
        refine lv_goto (tgt := 17) hx hb dX4_smellOf_75 (by decide) ?_
        exact ih x1 x2 x3 (x4 + u_9) (x5 + (1 : Int32)) hf H locs ls (lv_sub hl [2, 3, 4, 5, 1, 0] rfl) hP hS

set_option maxHeartbeats 4000000 in
set_option maxRecDepth 100000 in
theorem m_X4_smellOf {l : Launch} (E : Ev) (p_this : Nat) (p_script : Nat) (p_told : Nat) (p_draft : Nat) (p_course : Nat) (p_trial : Nat) (p_imageZero : Nat) (p_imageOne : Nat) (p_ledDoughs : Nat) (p_ledOvens : Nat) (p_rowSearch : Nat) (p_told_ovenNumbers : Nat) (p_told_doughNumbers : Nat) (p_course_rows : Nat) (v_keptImages : Int32) (v_ledCount : Int32) (v_traceSum : Int64) (v_told_ovenCount : Int32) (v_told_doughCount : Int32) (v_course_knownSteps : Int32) (f_told_ovenNumbers : Nat → Int32) (f_course_rows : Nat → Int32) (f_told_doughNumbers : Nat → Int32) (x1 : Int32) (x2 : Int32) (x3 : Int32) (res : Int32) (hf : f_X4_smellOf  v_told_ovenCount v_told_doughCount v_course_knownSteps f_told_ovenNumbers f_course_rows f_told_doughNumbers x1 x2 x3 = some res) : PureI l E 4 yX4_smellOf cX4_smellOf 6 .int [.ref p_this, .int x1, .int x2, .int x3] (w_X4_smellOf E p_this p_script p_told p_draft p_course p_trial p_imageZero p_imageOne p_ledDoughs p_ledOvens p_rowSearch p_told_ovenNumbers p_told_doughNumbers p_course_rows v_keptImages v_ledCount v_traceSum v_told_ovenCount v_told_doughCount v_course_knownSteps f_told_ovenNumbers f_course_rows f_told_doughNumbers) res := by
  refine PureI.of (by decide) (Nat.le_of_ble_eq_true rfl) ?_
  intro p e s m args below meth c Q A X hK hA hret H locs ls hl hP hS
  obtain ⟨hx, hb, hml, hown, hts, hrt, hlk⟩ := id X
  have hl : lv_has ls 6 [(0, .ref p_this), (1, .int x1), (2, .int x2), (3, .int x3)] := hl
  unfold f_X4_smellOf at hf
  refine lv_aload_n hx hb dX4_smellOf_0 rfl (lv_at hl 0 rfl) ?_
  refine gf_RX4_19 X hK hP 0 rfl rfl dX4_smellOf_1 ?_
  refine lv_iload_n hx hb dX4_smellOf_4 rfl (lv_at hl 1 rfl) ?_
  refine lv_iconst (v := (1 : Int32)) hx hb dX4_smellOf_5 (by decide) ?_
  obtain ⟨u_1, hu_1, hf⟩ := ob hf
  refine pV X hK hA hP hS hl.1 (m_X3_ofOven (l := l) E p_told p_told_ovenNumbers p_told_doughNumbers v_told_ovenCount v_told_doughCount f_told_ovenNumbers x1 (1 : Int32) u_1 hu_1) kRX4_85 [1, 2] rfl rfl rfl rfl ⟨⟨(Nat.le_of_ble_eq_true rfl), (Nat.le_of_ble_eq_true rfl)⟩, Nat.zero_le _, Nat.zero_le _⟩ rfl rfl (Nat.le_of_ble_eq_true rfl) dX4_smellOf_6 (fun H locs hP hS => ?_)
  refine lv_bipush (v := (9 : Int32)) hx hb dX4_smellOf_9 (by decide) ?_
  refine lv_isub hx hb dX4_smellOf_11 ?_
  refine lv_istore (lv' := [(4, .int (u_1 - (9 : Int32))), (0, .ref p_this), (1, .int x1), (2, .int x2), (3, .int x3)]) hx hb dX4_smellOf_12 hl (by decide) rfl (fun ls hl => ?_)
  refine lv_iconst (v := (0 : Int32)) hx hb dX4_smellOf_14 (by decide) ?_
  refine lv_istore (lv' := [(5, .int (0 : Int32)), (4, .int (u_1 - (9 : Int32))), (0, .ref p_this), (1, .int x1), (2, .int x2), (3, .int x3)]) hx hb dX4_smellOf_15 hl (by decide) rfl (fun ls hl => ?_)
  exact b_X4_smellOf_17 E p_this p_script p_told p_draft p_course p_trial p_imageZero p_imageOne p_ledDoughs p_ledOvens p_rowSearch p_told_ovenNumbers p_told_doughNumbers p_course_rows v_keptImages v_ledCount v_traceSum v_told_ovenCount v_told_doughCount v_course_knownSteps f_told_ovenNumbers f_course_rows f_told_doughNumbers res X hK hA hret   FU x1 x2 x3 (u_1 - (9 : Int32)) (0 : Int32) hf H locs ls (lv_sub hl [2, 3, 4, 5, 1, 0] rfl) hP hS

abbrev w_X4_noseOf (E : Ev) (p_this : Nat) (p_script : Nat) (p_told : Nat) (p_draft : Nat) (p_course : Nat) (p_trial : Nat) (p_imageZero : Nat) (p_imageOne : Nat) (p_ledDoughs : Nat) (p_ledOvens : Nat) (p_rowSearch : Nat) (p_told_ovenNumbers : Nat) (p_told_doughNumbers : Nat) (p_course_rows : Nat) (v_keptImages : Int32) (v_ledCount : Int32) (v_traceSum : Int64) (v_told_ovenCount : Int32) (v_told_doughCount : Int32) (v_course_knownSteps : Int32) (f_course_rows : Nat → Int32) (f_told_ovenNumbers : Nat → Int32) (f_told_doughNumbers : Nat → Int32) : va_W := [(p_this, .inr (4, [.ref p_script, .ref p_told, .ref p_draft, .ref p_course, .ref p_trial, .ref p_imageZero, .ref p_imageOne, .int v_keptImages, .ref p_ledDoughs, .ref p_ledOvens, .int v_ledCount, .ref p_rowSearch, .long v_traceSum])), (p_told, .inr (3, [.ref p_told_ovenNumbers, .ref p_told_doughNumbers, .int v_told_ovenCount, .int v_told_doughCount])), (p_course, .inr (0, [.ref p_course_rows, .int v_course_knownSteps])), (p_course_rows, .inl (E.2.1, 154, .inl f_course_rows)), (p_told_ovenNumbers, .inl (E.2.1, 10, .inl f_told_ovenNumbers)), (p_told_doughNumbers, .inl (E.2.1, 30, .inl f_told_doughNumbers))]
set_option maxHeartbeats 4000000 in
set_option maxRecDepth 100000 in
theorem b_X4_noseOf_56 {p : Program} {l : Launch} {e : Env} {s : State} {m : MethodId} {args : Array Value} {below : List Frame} {meth : Method} {c : Code} {Q : State → Prop} {A : Nat → Prop} (E : Ev) (p_this : Nat) (p_script : Nat) (p_told : Nat) (p_draft : Nat) (p_course : Nat) (p_trial : Nat) (p_imageZero : Nat) (p_imageOne : Nat) (p_ledDoughs : Nat) (p_ledOvens : Nat) (p_rowSearch : Nat) (p_told_ovenNumbers : Nat) (p_told_doughNumbers : Nat) (p_course_rows : Nat) (v_keptImages : Int32) (v_ledCount : Int32) (v_traceSum : Int64) (v_told_ovenCount : Int32) (v_told_doughCount : Int32) (v_course_knownSteps : Int32) (f_course_rows : Nat → Int32) (f_told_ovenNumbers : Nat → Int32) (f_told_doughNumbers : Nat → Int32) (res : Int32) (X : Cx p s m args meth c cX4_noseOf 7 RX4 (some .int)) (hK : KK E A s s.heap) (hA : ∀ q, s.heap.size ≤ q → A q) (hret : RetI p l e (RM 5) s m args below meth c Q E A cX4_noseOf .int (w_X4_noseOf E p_this p_script p_told p_draft p_course p_trial p_imageZero p_imageOne p_ledDoughs p_ledOvens p_rowSearch p_told_ovenNumbers p_told_doughNumbers p_course_rows v_keptImages v_ledCount v_traceSum v_told_ovenCount v_told_doughCount v_course_knownSteps f_course_rows f_told_ovenNumbers f_told_doughNumbers) res) (K9 : Int32 → Int32 → Int32 → Int32 → Int32 → Option Int32) (hK9 : ∀ (x1 : Int32) (x2 : Int32) (x3 : Int32) (x4 : Int32) (x5 : Int32), K9 x1 x2 x3 x4 x5 = some res → ∀ (H : Heap) (locs : List Loc) (ls : Array Slot), lv_has ls 7 [(0, .ref p_this), (1, .int x1), (2, .int x2), (3, .int x3), (4, .int x4), (5, .int x5)] → va_P E.1 classes (w_X4_noseOf E p_this p_script p_told p_draft p_course p_trial p_imageZero p_imageOne p_ledDoughs p_ledOvens p_rowSearch p_told_ovenNumbers p_told_doughNumbers p_course_rows v_keptImages v_ledCount v_traceSum v_told_ovenCount v_told_doughCount v_course_knownSteps f_course_rows f_told_ovenNumbers f_told_doughNumbers) H → va_S A s.heap H locs → W p l e (RM 5) s m args below meth c H locs 0 0 Q (F0 m 9 ls [])) (x1 : Int32) (x2 : Int32) (x5 : Int32) (x6 : Int32) (hf : f_X4_noseOf_56 v_told_ovenCount v_told_doughCount v_course_knownSteps f_course_rows f_told_ovenNumbers f_told_doughNumbers  K9 x1 x2 x5 x6 = some res) : ∀ (H : Heap) (locs : List Loc) (ls : Array Slot), lv_has ls 7 [(0, .ref p_this), (1, .int x1), (2, .int x2), (5, .int x5), (6, .int x6)] → va_P E.1 classes (w_X4_noseOf E p_this p_script p_told p_draft p_course p_trial p_imageZero p_imageOne p_ledDoughs p_ledOvens p_rowSearch p_told_ovenNumbers p_told_doughNumbers p_course_rows v_keptImages v_ledCount v_traceSum v_told_ovenCount v_told_doughCount v_course_knownSteps f_course_rows f_told_ovenNumbers f_told_doughNumbers) H → va_S A s.heap H locs → W p l e (RM 5) s m args below meth c H locs 0 0 Q (F0 m 56 ls []) := by
  obtain ⟨hx, hb, hml, hown, hts, hrt, hlk⟩ := id X
  intro H locs ls hl hP hS
  unfold f_X4_noseOf_56 at hf
  refine lv_iload hx hb dX4_noseOf_56 (lv_at hl 3 rfl) ?_
  refine lv_istore_n (lv' := [(3, .int x5), (0, .ref p_this), (1, .int x1), (2, .int x2), (5, .int x5), (6, .int x6)]) hx hb dX4_noseOf_58 rfl hl (by decide) rfl (fun ls hl => ?_)
  refine lv_iload hx hb dX4_noseOf_59 (lv_at hl 5 rfl) ?_
  refine lv_istore (lv' := [(4, .int x6), (3, .int x5), (0, .ref p_this), (1, .int x1), (2, .int x2), (5, .int x5), (6, .int x6)]) hx hb dX4_noseOf_61 hl (by decide) rfl (fun ls hl => ?_)
  refine lv_iinc (v := (x5 + (1 : Int32))) (lv' := [(5, .int (x5 + (1 : Int32))), (4, .int x6), (3, .int x5), (0, .ref p_this), (1, .int x1), (2, .int x2), (6, .int x6)]) hx hb dX4_noseOf_63 hl (k := 5) rfl rfl (by decide) rfl (fun ls hl => ?_)
  refine lv_goto (tgt := 9) hx hb dX4_noseOf_66 (by decide) ?_
  exact hK9 x1 x2 x5 x6 (x5 + (1 : Int32)) hf H locs ls (lv_sub hl [3, 4, 5, 2, 1, 0] rfl) hP hS

set_option maxHeartbeats 4000000 in
set_option maxRecDepth 100000 in
theorem b_X4_noseOf_9 {p : Program} {l : Launch} {e : Env} {s : State} {m : MethodId} {args : Array Value} {below : List Frame} {meth : Method} {c : Code} {Q : State → Prop} {A : Nat → Prop} (E : Ev) (p_this : Nat) (p_script : Nat) (p_told : Nat) (p_draft : Nat) (p_course : Nat) (p_trial : Nat) (p_imageZero : Nat) (p_imageOne : Nat) (p_ledDoughs : Nat) (p_ledOvens : Nat) (p_rowSearch : Nat) (p_told_ovenNumbers : Nat) (p_told_doughNumbers : Nat) (p_course_rows : Nat) (v_keptImages : Int32) (v_ledCount : Int32) (v_traceSum : Int64) (v_told_ovenCount : Int32) (v_told_doughCount : Int32) (v_course_knownSteps : Int32) (f_course_rows : Nat → Int32) (f_told_ovenNumbers : Nat → Int32) (f_told_doughNumbers : Nat → Int32) (res : Int32) (X : Cx p s m args meth c cX4_noseOf 7 RX4 (some .int)) (hK : KK E A s s.heap) (hA : ∀ q, s.heap.size ≤ q → A q) (hret : RetI p l e (RM 5) s m args below meth c Q E A cX4_noseOf .int (w_X4_noseOf E p_this p_script p_told p_draft p_course p_trial p_imageZero p_imageOne p_ledDoughs p_ledOvens p_rowSearch p_told_ovenNumbers p_told_doughNumbers p_course_rows v_keptImages v_ledCount v_traceSum v_told_ovenCount v_told_doughCount v_course_knownSteps f_course_rows f_told_ovenNumbers f_told_doughNumbers) res)  : ∀ (n : Nat) (x1 : Int32) (x2 : Int32) (x3 : Int32) (x4 : Int32) (x5 : Int32), f_X4_noseOf_9 v_told_ovenCount v_told_doughCount v_course_knownSteps f_course_rows f_told_ovenNumbers f_told_doughNumbers   n x1 x2 x3 x4 x5 = some res → ∀ (H : Heap) (locs : List Loc) (ls : Array Slot), lv_has ls 7 [(0, .ref p_this), (1, .int x1), (2, .int x2), (3, .int x3), (4, .int x4), (5, .int x5)] → va_P E.1 classes (w_X4_noseOf E p_this p_script p_told p_draft p_course p_trial p_imageZero p_imageOne p_ledDoughs p_ledOvens p_rowSearch p_told_ovenNumbers p_told_doughNumbers p_course_rows v_keptImages v_ledCount v_traceSum v_told_ovenCount v_told_doughCount v_course_knownSteps f_course_rows f_told_ovenNumbers f_told_doughNumbers) H → va_S A s.heap H locs → W p l e (RM 5) s m args below meth c H locs 0 0 Q (F0 m 9 ls []) := by
  obtain ⟨hx, hb, hml, hown, hts, hrt, hlk⟩ := id X
  intro n
  induction n with
  | zero => intro x1 x2 x3 x4 x5 hf; exact absurd hf (by simp [f_X4_noseOf_9])
  | succ n ih =>
    intro x1 x2 x3 x4 x5 hf H locs ls hl hP hS
    unfold f_X4_noseOf_9 at hf
    refine lv_iload hx hb dX4_noseOf_9 (lv_at hl 5 rfl) ?_
    refine lv_aload_n hx hb dX4_noseOf_11 rfl (lv_at hl 0 rfl) ?_
    refine gf_RX4_19 X hK hP 0 rfl rfl dX4_noseOf_12 ?_
    obtain ⟨u_1, hu_1, hf⟩ := ob hf
    refine pV X hK hA hP hS hl.1 (m_X3_ovens (l := l) E p_told p_told_ovenNumbers p_told_doughNumbers v_told_ovenCount v_told_doughCount  u_1 hu_1) kRX4_193 [1] rfl rfl rfl rfl ⟨⟨(Nat.le_of_ble_eq_true rfl), (Nat.le_of_ble_eq_true rfl)⟩, Nat.zero_le _, Nat.zero_le _⟩ rfl rfl (Nat.le_of_ble_eq_true rfl) dX4_noseOf_15 (fun H locs hP hS => ?_)
    refine lv_icmp_ge (tgt := 69) hx hb dX4_noseOf_18 (by decide) (fun c_2 => ?_) (fun c_2 => ?_)
    · replace hf := ot c_2 hf
      refine lv_iload_n hx hb dX4_noseOf_69 rfl (lv_at hl 3 rfl) ?_
      obtain rfl := Option.some.inj hf
      exact hret H locs _ ls rfl hP hS dX4_noseOf_70
    · replace hf := of c_2 hf
      refine lv_aload_n hx hb dX4_noseOf_21 rfl (lv_at hl 0 rfl) ?_
      refine gf_RX4_29 X hK hP 0 rfl rfl dX4_noseOf_22 ?_
      refine lv_iload hx hb dX4_noseOf_25 (lv_at hl 5 rfl) ?_
      obtain ⟨u_3, hu_3, hf⟩ := ob hf
      refine pV X hK hA hP hS hl.1 (m_X0_isShut (l := l) E p_course p_course_rows v_course_knownSteps f_course_rows x5 u_3 hu_3) kRX4_96 [2, 3] rfl rfl rfl rfl ⟨⟨(Nat.le_of_ble_eq_true rfl), (Nat.le_of_ble_eq_true rfl)⟩, Nat.zero_le _, Nat.zero_le _⟩ rfl rfl (Nat.le_of_ble_eq_true rfl) dX4_noseOf_27 (fun H locs hP hS => ?_)
      refine lv_if_ne (tgt := 63) hx hb dX4_noseOf_30 (by decide) (fun c_4 => ?_) (fun c_4 => ?_)
      · replace hf := of c_4 hf
        refine lv_iinc (v := (x5 + (1 : Int32))) (lv' := [(5, .int (x5 + (1 : Int32))), (0, .ref p_this), (1, .int x1), (2, .int x2), (3, .int x3), (4, .int x4)]) hx hb dX4_noseOf_63 hl (k := 5) rfl rfl (by decide) rfl (fun ls hl => ?_)
        refine lv_goto (tgt := 9) hx hb dX4_noseOf_66 (by decide) ?_
        exact ih x1 x2 x3 x4 (x5 + (1 : Int32)) hf H locs ls (lv_sub hl [1, 2, 3, 4, 5, 0] rfl) hP hS
      · replace hf := ot c_4 hf
        refine lv_aload_n hx hb dX4_noseOf_33 rfl (lv_at hl 0 rfl) ?_
        refine lv_iload hx hb dX4_noseOf_34 (lv_at hl 5 rfl) ?_
        refine lv_iload_n hx hb dX4_noseOf_36 rfl (lv_at hl 1 rfl) ?_
        refine lv_iload_n hx hb dX4_noseOf_37 rfl (lv_at hl 2 rfl) ?_
        obtain ⟨u_5, hu_5, hf⟩ := ob hf
        refine pV X hK hA hP hS hl.1 (m_X4_smellOf (l := l) E p_this p_script p_told p_draft p_course p_trial p_imageZero p_imageOne p_ledDoughs p_ledOvens p_rowSearch p_told_ovenNumbers p_told_doughNumbers p_course_rows v_keptImages v_ledCount v_traceSum v_told_ovenCount v_told_doughCount v_course_knownSteps f_told_ovenNumbers f_course_rows f_told_doughNumbers x5 x1 x2 u_5 hu_5) kRX4_118 [0, 1, 4, 2, 3, 5] rfl rfl rfl rfl ⟨⟨(Nat.le_of_ble_eq_true rfl), (Nat.le_of_ble_eq_true rfl)⟩, Nat.zero_le _, Nat.zero_le _⟩ rfl rfl (Nat.le_of_ble_eq_true rfl) dX4_noseOf_38 (fun H locs hP hS => ?_)
        refine lv_istore (lv' := [(6, .int u_5), (0, .ref p_this), (1, .int x1), (2, .int x2), (3, .int x3), (4, .int x4), (5, .int x5)]) hx hb dX4_noseOf_41 hl (by decide) rfl (fun ls hl => ?_)
        refine lv_iload_n hx hb dX4_noseOf_43 rfl (lv_at hl 4 rfl) ?_
        refine lv_bipush (v := (-9 : Int32)) hx hb dX4_noseOf_44 (by decide) ?_
        refine lv_icmp_eq (tgt := 56) hx hb dX4_noseOf_46 (by decide) (fun c_6 => ?_) (fun c_6 => ?_)
        · replace hf := ot c_6 hf
          exact b_X4_noseOf_56 E p_this p_script p_told p_draft p_course p_trial p_imageZero p_imageOne p_ledDoughs p_ledOvens p_rowSearch p_told_ovenNumbers p_told_doughNumbers p_course_rows v_keptImages v_ledCount v_traceSum v_told_ovenCount v_told_doughCount v_course_knownSteps f_course_rows f_told_ovenNumbers f_told_doughNumbers res X hK hA hret  (f_X4_noseOf_9 v_told_ovenCount v_told_doughCount v_course_knownSteps f_course_rows f_told_ovenNumbers f_told_doughNumbers   n) ih x1 x2 x5 u_5 hf H locs ls (lv_sub hl [1, 2, 3, 6, 0] rfl) hP hS
        · replace hf := of c_6 hf
          refine lv_iload hx hb dX4_noseOf_49 (lv_at hl 0 rfl) ?_
          refine lv_iload hx hb dX4_noseOf_51 (lv_at hl 5 rfl) ?_
          refine lv_icmp_le (tgt := 63) hx hb dX4_noseOf_53 (by decide) (fun c_7 => ?_) (fun c_7 => ?_)
          · replace hf := ot c_7 hf
            refine lv_iinc (v := (x5 + (1 : Int32))) (lv' := [(5, .int (x5 + (1 : Int32))), (6, .int u_5), (0, .ref p_this), (1, .int x1), (2, .int x2), (3, .int x3), (4, .int x4)]) hx hb dX4_noseOf_63 hl (k := 6) rfl rfl (by decide) rfl (fun ls hl => ?_)
            refine lv_goto (tgt := 9) hx hb dX4_noseOf_66 (by decide) ?_
            exact ih x1 x2 x3 x4 (x5 + (1 : Int32)) hf H locs ls (lv_sub hl [2, 3, 4, 5, 6, 0] rfl) hP hS
          · replace hf := of c_7 hf
            exact b_X4_noseOf_56 E p_this p_script p_told p_draft p_course p_trial p_imageZero p_imageOne p_ledDoughs p_ledOvens p_rowSearch p_told_ovenNumbers p_told_doughNumbers p_course_rows v_keptImages v_ledCount v_traceSum v_told_ovenCount v_told_doughCount v_course_knownSteps f_course_rows f_told_ovenNumbers f_told_doughNumbers res X hK hA hret  (f_X4_noseOf_9 v_told_ovenCount v_told_doughCount v_course_knownSteps f_course_rows f_told_ovenNumbers f_told_doughNumbers   n) ih x1 x2 x5 u_5 hf H locs ls (lv_sub hl [1, 2, 3, 6, 0] rfl) hP hS

set_option maxHeartbeats 4000000 in
set_option maxRecDepth 100000 in
theorem m_X4_noseOf {l : Launch} (E : Ev) (p_this : Nat) (p_script : Nat) (p_told : Nat) (p_draft : Nat) (p_course : Nat) (p_trial : Nat) (p_imageZero : Nat) (p_imageOne : Nat) (p_ledDoughs : Nat) (p_ledOvens : Nat) (p_rowSearch : Nat) (p_told_ovenNumbers : Nat) (p_told_doughNumbers : Nat) (p_course_rows : Nat) (v_keptImages : Int32) (v_ledCount : Int32) (v_traceSum : Int64) (v_told_ovenCount : Int32) (v_told_doughCount : Int32) (v_course_knownSteps : Int32) (f_course_rows : Nat → Int32) (f_told_ovenNumbers : Nat → Int32) (f_told_doughNumbers : Nat → Int32) (x1 : Int32) (x2 : Int32) (res : Int32) (hf : f_X4_noseOf  v_told_ovenCount v_told_doughCount v_course_knownSteps f_course_rows f_told_ovenNumbers f_told_doughNumbers x1 x2 = some res) : PureI l E 5 yX4_noseOf cX4_noseOf 7 .int [.ref p_this, .int x1, .int x2] (w_X4_noseOf E p_this p_script p_told p_draft p_course p_trial p_imageZero p_imageOne p_ledDoughs p_ledOvens p_rowSearch p_told_ovenNumbers p_told_doughNumbers p_course_rows v_keptImages v_ledCount v_traceSum v_told_ovenCount v_told_doughCount v_course_knownSteps f_course_rows f_told_ovenNumbers f_told_doughNumbers) res := by
  refine PureI.of (by decide) (Nat.le_of_ble_eq_true rfl) ?_
  intro p e s m args below meth c Q A X hK hA hret H locs ls hl hP hS
  obtain ⟨hx, hb, hml, hown, hts, hrt, hlk⟩ := id X
  have hl : lv_has ls 7 [(0, .ref p_this), (1, .int x1), (2, .int x2)] := hl
  unfold f_X4_noseOf at hf
  refine lv_bipush (v := (-9 : Int32)) hx hb dX4_noseOf_0 (by decide) ?_
  refine lv_istore_n (lv' := [(3, .int (-9 : Int32)), (0, .ref p_this), (1, .int x1), (2, .int x2)]) hx hb dX4_noseOf_2 rfl hl (by decide) rfl (fun ls hl => ?_)
  refine lv_iconst (v := (0 : Int32)) hx hb dX4_noseOf_3 (by decide) ?_
  refine lv_istore (lv' := [(4, .int (0 : Int32)), (3, .int (-9 : Int32)), (0, .ref p_this), (1, .int x1), (2, .int x2)]) hx hb dX4_noseOf_4 hl (by decide) rfl (fun ls hl => ?_)
  refine lv_iconst (v := (0 : Int32)) hx hb dX4_noseOf_6 (by decide) ?_
  refine lv_istore (lv' := [(5, .int (0 : Int32)), (4, .int (0 : Int32)), (3, .int (-9 : Int32)), (0, .ref p_this), (1, .int x1), (2, .int x2)]) hx hb dX4_noseOf_7 hl (by decide) rfl (fun ls hl => ?_)
  exact b_X4_noseOf_9 E p_this p_script p_told p_draft p_course p_trial p_imageZero p_imageOne p_ledDoughs p_ledOvens p_rowSearch p_told_ovenNumbers p_told_doughNumbers p_course_rows v_keptImages v_ledCount v_traceSum v_told_ovenCount v_told_doughCount v_course_knownSteps f_course_rows f_told_ovenNumbers f_told_doughNumbers res X hK hA hret   FU x1 x2 (-9 : Int32) (0 : Int32) (0 : Int32) hf H locs ls (lv_sub hl [3, 4, 5, 2, 1, 0] rfl) hP hS

abbrev w_X4_dough (E : Ev) (p_this : Nat) (p_script : Nat) (p_told : Nat) (p_draft : Nat) (p_course : Nat) (p_trial : Nat) (p_imageZero : Nat) (p_imageOne : Nat) (p_ledDoughs : Nat) (p_ledOvens : Nat) (p_rowSearch : Nat) (p_told_ovenNumbers : Nat) (p_told_doughNumbers : Nat) (p_course_rows : Nat) (v_keptImages : Int32) (v_ledCount : Int32) (v_traceSum : Int64) (v_told_ovenCount : Int32) (v_told_doughCount : Int32) (v_course_knownSteps : Int32) (f_course_rows : Nat → Int32) (f_told_ovenNumbers : Nat → Int32) (f_told_doughNumbers : Nat → Int32) : va_W := [(p_this, .inr (4, [.ref p_script, .ref p_told, .ref p_draft, .ref p_course, .ref p_trial, .ref p_imageZero, .ref p_imageOne, .int v_keptImages, .ref p_ledDoughs, .ref p_ledOvens, .int v_ledCount, .ref p_rowSearch, .long v_traceSum])), (p_told, .inr (3, [.ref p_told_ovenNumbers, .ref p_told_doughNumbers, .int v_told_ovenCount, .int v_told_doughCount])), (p_course, .inr (0, [.ref p_course_rows, .int v_course_knownSteps])), (p_course_rows, .inl (E.2.1, 154, .inl f_course_rows)), (p_told_ovenNumbers, .inl (E.2.1, 10, .inl f_told_ovenNumbers)), (p_told_doughNumbers, .inl (E.2.1, 30, .inl f_told_doughNumbers))]
set_option maxHeartbeats 4000000 in
set_option maxRecDepth 100000 in
theorem m_X4_dough {l : Launch} (E : Ev) (p_this : Nat) (p_script : Nat) (p_told : Nat) (p_draft : Nat) (p_course : Nat) (p_trial : Nat) (p_imageZero : Nat) (p_imageOne : Nat) (p_ledDoughs : Nat) (p_ledOvens : Nat) (p_rowSearch : Nat) (p_told_ovenNumbers : Nat) (p_told_doughNumbers : Nat) (p_course_rows : Nat) (v_keptImages : Int32) (v_ledCount : Int32) (v_traceSum : Int64) (v_told_ovenCount : Int32) (v_told_doughCount : Int32) (v_course_knownSteps : Int32) (f_course_rows : Nat → Int32) (f_told_ovenNumbers : Nat → Int32) (f_told_doughNumbers : Nat → Int32) (x1 : Int32) (x2 : Int32) (res : Int32) (hf : f_X4_dough  v_told_ovenCount v_told_doughCount v_course_knownSteps f_course_rows f_told_ovenNumbers f_told_doughNumbers x1 x2 = some res) : PureI l E 6 yX4_dough cX4_dough 3 .int [.ref p_this, .int x1, .int x2] (w_X4_dough E p_this p_script p_told p_draft p_course p_trial p_imageZero p_imageOne p_ledDoughs p_ledOvens p_rowSearch p_told_ovenNumbers p_told_doughNumbers p_course_rows v_keptImages v_ledCount v_traceSum v_told_ovenCount v_told_doughCount v_course_knownSteps f_course_rows f_told_ovenNumbers f_told_doughNumbers) res := by
  refine PureI.of (by decide) (Nat.le_of_ble_eq_true rfl) ?_
  intro p e s m args below meth c Q A X hK hA hret H locs ls hl hP hS
  obtain ⟨hx, hb, hml, hown, hts, hrt, hlk⟩ := id X
  have hl : lv_has ls 3 [(0, .ref p_this), (1, .int x1), (2, .int x2)] := hl
  unfold f_X4_dough at hf
  refine lv_aload_n hx hb dX4_dough_0 rfl (lv_at hl 0 rfl) ?_
  refine gf_RX4_19 X hK hP 0 rfl rfl dX4_dough_1 ?_
  refine lv_iload_n hx hb dX4_dough_4 rfl (lv_at hl 1 rfl) ?_
  obtain ⟨u_1, hu_1, hf⟩ := ob hf
  refine pV X hK hA hP hS hl.1 (m_X3_hasDough (l := l) E p_told p_told_ovenNumbers p_told_doughNumbers v_told_ovenCount v_told_doughCount x1 u_1 hu_1) kRX4_99 [1] rfl rfl rfl rfl ⟨⟨(Nat.le_of_ble_eq_true rfl), (Nat.le_of_ble_eq_true rfl)⟩, Nat.zero_le _, Nat.zero_le _⟩ rfl rfl (Nat.le_of_ble_eq_true rfl) dX4_dough_5 (fun H locs hP hS => ?_)
  refine lv_if_ne (tgt := 13) hx hb dX4_dough_8 (by decide) (fun c_2 => ?_) (fun c_2 => ?_)
  · replace hf := of c_2 hf
    refine lv_iload_n hx hb dX4_dough_13 rfl (lv_at hl 2 rfl) ?_
    by_cases c_3 : x2 = 0
    · replace hf := ot c_3 hf
      refine lv_tableIn (off := 46) (tgt := 60) hx hb dX4_dough_14 (by rw [c_3]; decide) (by rw [c_3]; decide) (by rw [c_3]; rfl) (by decide) ?_
      refine lv_aload_n hx hb dX4_dough_60 rfl (lv_at hl 0 rfl) ?_
      refine gf_RX4_19 X hK hP 0 rfl rfl dX4_dough_61 ?_
      refine lv_iload_n hx hb dX4_dough_64 rfl (lv_at hl 1 rfl) ?_
      refine lv_iconst (v := (0 : Int32)) hx hb dX4_dough_65 (by decide) ?_
      obtain ⟨u_4, hu_4, hf⟩ := ob hf
      refine pV X hK hA hP hS hl.1 (m_X3_ofDough (l := l) E p_told p_told_ovenNumbers p_told_doughNumbers v_told_ovenCount v_told_doughCount f_told_doughNumbers x1 (0 : Int32) u_4 hu_4) kRX4_102 [1, 5] rfl rfl rfl rfl ⟨⟨(Nat.le_of_ble_eq_true rfl), (Nat.le_of_ble_eq_true rfl)⟩, Nat.zero_le _, Nat.zero_le _⟩ rfl rfl (Nat.le_of_ble_eq_true rfl) dX4_dough_66 (fun H locs hP hS => ?_)
      obtain rfl := Option.some.inj hf
      exact hret H locs _ ls rfl hP hS dX4_dough_69
    · replace hf := of c_3 hf
      by_cases c_5 : x2 = 1
      · replace hf := ot c_5 hf
        refine lv_tableIn (off := 56) (tgt := 70) hx hb dX4_dough_14 (by rw [c_5]; decide) (by rw [c_5]; decide) (by rw [c_5]; rfl) (by decide) ?_
        refine lv_aload_n hx hb dX4_dough_70 rfl (lv_at hl 0 rfl) ?_
        refine gf_RX4_19 X hK hP 0 rfl rfl dX4_dough_71 ?_
        refine lv_iload_n hx hb dX4_dough_74 rfl (lv_at hl 1 rfl) ?_
        refine lv_iconst (v := (1 : Int32)) hx hb dX4_dough_75 (by decide) ?_
        obtain ⟨u_6, hu_6, hf⟩ := ob hf
        refine pV X hK hA hP hS hl.1 (m_X3_ofDough (l := l) E p_told p_told_ovenNumbers p_told_doughNumbers v_told_ovenCount v_told_doughCount f_told_doughNumbers x1 (1 : Int32) u_6 hu_6) kRX4_102 [1, 5] rfl rfl rfl rfl ⟨⟨(Nat.le_of_ble_eq_true rfl), (Nat.le_of_ble_eq_true rfl)⟩, Nat.zero_le _, Nat.zero_le _⟩ rfl rfl (Nat.le_of_ble_eq_true rfl) dX4_dough_76 (fun H locs hP hS => ?_)
        obtain rfl := Option.some.inj hf
        exact hret H locs _ ls rfl hP hS dX4_dough_79
      · replace hf := of c_5 hf
        by_cases c_7 : x2 = 2
        · replace hf := ot c_7 hf
          refine lv_tableIn (off := 66) (tgt := 80) hx hb dX4_dough_14 (by rw [c_7]; decide) (by rw [c_7]; decide) (by rw [c_7]; rfl) (by decide) ?_
          refine lv_aload_n hx hb dX4_dough_80 rfl (lv_at hl 0 rfl) ?_
          refine gf_RX4_19 X hK hP 0 rfl rfl dX4_dough_81 ?_
          refine lv_iload_n hx hb dX4_dough_84 rfl (lv_at hl 1 rfl) ?_
          refine lv_iconst (v := (2 : Int32)) hx hb dX4_dough_85 (by decide) ?_
          obtain ⟨u_8, hu_8, hf⟩ := ob hf
          refine pV X hK hA hP hS hl.1 (m_X3_ofDough (l := l) E p_told p_told_ovenNumbers p_told_doughNumbers v_told_ovenCount v_told_doughCount f_told_doughNumbers x1 (2 : Int32) u_8 hu_8) kRX4_102 [1, 5] rfl rfl rfl rfl ⟨⟨(Nat.le_of_ble_eq_true rfl), (Nat.le_of_ble_eq_true rfl)⟩, Nat.zero_le _, Nat.zero_le _⟩ rfl rfl (Nat.le_of_ble_eq_true rfl) dX4_dough_86 (fun H locs hP hS => ?_)
          obtain rfl := Option.some.inj hf
          exact hret H locs _ ls rfl hP hS dX4_dough_89
        · replace hf := of c_7 hf
          by_cases c_9 : x2 = 3
          · replace hf := ot c_9 hf
            refine lv_tableIn (off := 76) (tgt := 90) hx hb dX4_dough_14 (by rw [c_9]; decide) (by rw [c_9]; decide) (by rw [c_9]; rfl) (by decide) ?_
            refine lv_aload_n hx hb dX4_dough_90 rfl (lv_at hl 0 rfl) ?_
            refine gf_RX4_19 X hK hP 0 rfl rfl dX4_dough_91 ?_
            refine lv_iload_n hx hb dX4_dough_94 rfl (lv_at hl 1 rfl) ?_
            refine lv_iconst (v := (3 : Int32)) hx hb dX4_dough_95 (by decide) ?_
            obtain ⟨u_10, hu_10, hf⟩ := ob hf
            refine pV X hK hA hP hS hl.1 (m_X3_ofDough (l := l) E p_told p_told_ovenNumbers p_told_doughNumbers v_told_ovenCount v_told_doughCount f_told_doughNumbers x1 (3 : Int32) u_10 hu_10) kRX4_102 [1, 5] rfl rfl rfl rfl ⟨⟨(Nat.le_of_ble_eq_true rfl), (Nat.le_of_ble_eq_true rfl)⟩, Nat.zero_le _, Nat.zero_le _⟩ rfl rfl (Nat.le_of_ble_eq_true rfl) dX4_dough_96 (fun H locs hP hS => ?_)
            obtain rfl := Option.some.inj hf
            exact hret H locs _ ls rfl hP hS dX4_dough_99
          · replace hf := of c_9 hf
            by_cases c_11 : x2 = 4
            · replace hf := ot c_11 hf
              refine lv_tableIn (off := 86) (tgt := 100) hx hb dX4_dough_14 (by rw [c_11]; decide) (by rw [c_11]; decide) (by rw [c_11]; rfl) (by decide) ?_
              refine lv_aload_n hx hb dX4_dough_100 rfl (lv_at hl 0 rfl) ?_
              refine gf_RX4_19 X hK hP 0 rfl rfl dX4_dough_101 ?_
              refine lv_iload_n hx hb dX4_dough_104 rfl (lv_at hl 1 rfl) ?_
              refine lv_iconst (v := (4 : Int32)) hx hb dX4_dough_105 (by decide) ?_
              obtain ⟨u_12, hu_12, hf⟩ := ob hf
              refine pV X hK hA hP hS hl.1 (m_X3_ofDough (l := l) E p_told p_told_ovenNumbers p_told_doughNumbers v_told_ovenCount v_told_doughCount f_told_doughNumbers x1 (4 : Int32) u_12 hu_12) kRX4_102 [1, 5] rfl rfl rfl rfl ⟨⟨(Nat.le_of_ble_eq_true rfl), (Nat.le_of_ble_eq_true rfl)⟩, Nat.zero_le _, Nat.zero_le _⟩ rfl rfl (Nat.le_of_ble_eq_true rfl) dX4_dough_106 (fun H locs hP hS => ?_)
              obtain rfl := Option.some.inj hf
              exact hret H locs _ ls rfl hP hS dX4_dough_109
            · replace hf := of c_11 hf
              by_cases c_13 : x2 = 5
              · replace hf := ot c_13 hf
                refine lv_tableIn (off := 96) (tgt := 110) hx hb dX4_dough_14 (by rw [c_13]; decide) (by rw [c_13]; decide) (by rw [c_13]; rfl) (by decide) ?_
                refine lv_aload_n hx hb dX4_dough_110 rfl (lv_at hl 0 rfl) ?_
                refine gf_RX4_29 X hK hP 0 rfl rfl dX4_dough_111 ?_
                refine lv_iload_n hx hb dX4_dough_114 rfl (lv_at hl 1 rfl) ?_
                obtain ⟨u_14, hu_14, hf⟩ := ob hf
                refine pV X hK hA hP hS hl.1 (m_X0_place (l := l) E p_course p_course_rows v_course_knownSteps f_course_rows x1 u_14 hu_14) kRX4_105 [2, 3] rfl rfl rfl rfl ⟨⟨(Nat.le_of_ble_eq_true rfl), (Nat.le_of_ble_eq_true rfl)⟩, Nat.zero_le _, Nat.zero_le _⟩ rfl rfl (Nat.le_of_ble_eq_true rfl) dX4_dough_115 (fun H locs hP hS => ?_)
                obtain rfl := Option.some.inj hf
                exact hret H locs _ ls rfl hP hS dX4_dough_118
              · replace hf := of c_13 hf
                by_cases c_15 : x2 = 6
                · replace hf := ot c_15 hf
                  refine lv_tableIn (off := 105) (tgt := 119) hx hb dX4_dough_14 (by rw [c_15]; decide) (by rw [c_15]; decide) (by rw [c_15]; rfl) (by decide) ?_
                  refine lv_aload_n hx hb dX4_dough_119 rfl (lv_at hl 0 rfl) ?_
                  refine gf_RX4_29 X hK hP 0 rfl rfl dX4_dough_120 ?_
                  refine lv_iload_n hx hb dX4_dough_123 rfl (lv_at hl 1 rfl) ?_
                  obtain ⟨u_16, hu_16, hf⟩ := ob hf
                  refine pV X hK hA hP hS hl.1 (m_X0_baked (l := l) E p_course p_course_rows v_course_knownSteps f_course_rows x1 u_16 hu_16) kRX4_109 [2, 3] rfl rfl rfl rfl ⟨⟨(Nat.le_of_ble_eq_true rfl), (Nat.le_of_ble_eq_true rfl)⟩, Nat.zero_le _, Nat.zero_le _⟩ rfl rfl (Nat.le_of_ble_eq_true rfl) dX4_dough_124 (fun H locs hP hS => ?_)
                  obtain rfl := Option.some.inj hf
                  exact hret H locs _ ls rfl hP hS dX4_dough_127
                · replace hf := of c_15 hf
                  by_cases c_17 : x2 = 7
                  · replace hf := ot c_17 hf
                    refine lv_tableIn (off := 114) (tgt := 128) hx hb dX4_dough_14 (by rw [c_17]; decide) (by rw [c_17]; decide) (by rw [c_17]; rfl) (by decide) ?_
                    refine lv_aload_n hx hb dX4_dough_128 rfl (lv_at hl 0 rfl) ?_
                    refine lv_iload_n hx hb dX4_dough_129 rfl (lv_at hl 1 rfl) ?_
                    obtain ⟨u_18, hu_18, hf⟩ := ob hf
                    refine pV X hK hA hP hS hl.1 (m_X4_isOut (l := l) E p_this p_script p_told p_draft p_course p_trial p_imageZero p_imageOne p_ledDoughs p_ledOvens p_rowSearch p_course_rows v_keptImages v_ledCount v_traceSum v_course_knownSteps f_course_rows x1 u_18 hu_18) kRX4_112 [0, 2, 3] rfl rfl rfl rfl ⟨⟨(Nat.le_of_ble_eq_true rfl), (Nat.le_of_ble_eq_true rfl)⟩, Nat.zero_le _, Nat.zero_le _⟩ rfl rfl (Nat.le_of_ble_eq_true rfl) dX4_dough_130 (fun H locs hP hS => ?_)
                    refine lv_if_eq (tgt := 145) hx hb dX4_dough_133 (by decide) (fun c_19 => ?_) (fun c_19 => ?_)
                    · replace hf := ot c_19 hf
                      refine lv_bipush (v := (-9 : Int32)) hx hb dX4_dough_145 (by decide) ?_
                      obtain rfl := Option.some.inj hf
                      exact hret H locs _ ls rfl hP hS dX4_dough_147
                    · replace hf := of c_19 hf
                      refine lv_aload_n hx hb dX4_dough_136 rfl (lv_at hl 0 rfl) ?_
                      refine lv_iload_n hx hb dX4_dough_137 rfl (lv_at hl 1 rfl) ?_
                      refine lv_iconst (v := (-1 : Int32)) hx hb dX4_dough_138 (by decide) ?_
                      obtain ⟨u_20, hu_20, hf⟩ := ob hf
                      refine pV X hK hA hP hS hl.1 (m_X4_noseOf (l := l) E p_this p_script p_told p_draft p_course p_trial p_imageZero p_imageOne p_ledDoughs p_ledOvens p_rowSearch p_told_ovenNumbers p_told_doughNumbers p_course_rows v_keptImages v_ledCount v_traceSum v_told_ovenCount v_told_doughCount v_course_knownSteps f_course_rows f_told_ovenNumbers f_told_doughNumbers x1 (-1 : Int32) u_20 hu_20) kRX4_115 [0, 1, 2, 3, 4, 5] rfl rfl rfl rfl ⟨⟨(Nat.le_of_ble_eq_true rfl), (Nat.le_of_ble_eq_true rfl)⟩, Nat.zero_le _, Nat.zero_le _⟩ rfl rfl (Nat.le_of_ble_eq_true rfl) dX4_dough_139 (fun H locs hP hS => ?_)
                      refine lv_goto (tgt := 147) hx hb dX4_dough_142 (by decide) ?_
                      obtain rfl := Option.some.inj hf
                      exact hret H locs _ ls rfl hP hS dX4_dough_147
                  · replace hf := of c_17 hf
                    refine lv_tableOut (tgt := 148) hx hb dX4_dough_14 (by
                        have e_3 := lv_neT c_3 (show (0 : Int32).toInt = 0 by decide)
                        have e_5 := lv_neT c_5 (show (1 : Int32).toInt = 1 by decide)
                        have e_7 := lv_neT c_7 (show (2 : Int32).toInt = 2 by decide)
                        have e_9 := lv_neT c_9 (show (3 : Int32).toInt = 3 by decide)
                        have e_11 := lv_neT c_11 (show (4 : Int32).toInt = 4 by decide)
                        have e_13 := lv_neT c_13 (show (5 : Int32).toInt = 5 by decide)
                        have e_15 := lv_neT c_15 (show (6 : Int32).toInt = 6 by decide)
                        have e_17 := lv_neT c_17 (show (7 : Int32).toInt = 7 by decide)
                        omega) (by decide) ?_
                    refine lv_iconst (v := (-1 : Int32)) hx hb dX4_dough_148 (by decide) ?_
                    obtain rfl := Option.some.inj hf
                    exact hret H locs _ ls rfl hP hS dX4_dough_149
  · replace hf := ot c_2 hf
    refine lv_iconst (v := (-1 : Int32)) hx hb dX4_dough_11 (by decide) ?_
    obtain rfl := Option.some.inj hf
    exact hret H locs _ ls rfl hP hS dX4_dough_12

abbrev w_X4_smell (E : Ev) (p_this : Nat) (p_script : Nat) (p_told : Nat) (p_draft : Nat) (p_course : Nat) (p_trial : Nat) (p_imageZero : Nat) (p_imageOne : Nat) (p_ledDoughs : Nat) (p_ledOvens : Nat) (p_rowSearch : Nat) (p_told_ovenNumbers : Nat) (p_told_doughNumbers : Nat) (p_course_rows : Nat) (v_keptImages : Int32) (v_ledCount : Int32) (v_traceSum : Int64) (v_told_ovenCount : Int32) (v_told_doughCount : Int32) (v_course_knownSteps : Int32) (f_told_ovenNumbers : Nat → Int32) (f_course_rows : Nat → Int32) (f_told_doughNumbers : Nat → Int32) : va_W := [(p_this, .inr (4, [.ref p_script, .ref p_told, .ref p_draft, .ref p_course, .ref p_trial, .ref p_imageZero, .ref p_imageOne, .int v_keptImages, .ref p_ledDoughs, .ref p_ledOvens, .int v_ledCount, .ref p_rowSearch, .long v_traceSum])), (p_told, .inr (3, [.ref p_told_ovenNumbers, .ref p_told_doughNumbers, .int v_told_ovenCount, .int v_told_doughCount])), (p_told_ovenNumbers, .inl (E.2.1, 10, .inl f_told_ovenNumbers)), (p_course, .inr (0, [.ref p_course_rows, .int v_course_knownSteps])), (p_course_rows, .inl (E.2.1, 154, .inl f_course_rows)), (p_told_doughNumbers, .inl (E.2.1, 30, .inl f_told_doughNumbers))]
set_option maxHeartbeats 4000000 in
set_option maxRecDepth 100000 in
theorem m_X4_smell {l : Launch} (E : Ev) (p_this : Nat) (p_script : Nat) (p_told : Nat) (p_draft : Nat) (p_course : Nat) (p_trial : Nat) (p_imageZero : Nat) (p_imageOne : Nat) (p_ledDoughs : Nat) (p_ledOvens : Nat) (p_rowSearch : Nat) (p_told_ovenNumbers : Nat) (p_told_doughNumbers : Nat) (p_course_rows : Nat) (v_keptImages : Int32) (v_ledCount : Int32) (v_traceSum : Int64) (v_told_ovenCount : Int32) (v_told_doughCount : Int32) (v_course_knownSteps : Int32) (f_told_ovenNumbers : Nat → Int32) (f_course_rows : Nat → Int32) (f_told_doughNumbers : Nat → Int32) (x1 : Int32) (x2 : Int32) (res : Int32) (hf : f_X4_smell  v_told_ovenCount v_told_doughCount v_course_knownSteps f_told_ovenNumbers f_course_rows f_told_doughNumbers x1 x2 = some res) : PureI l E 5 yX4_smell cX4_smell 3 .int [.ref p_this, .int x1, .int x2] (w_X4_smell E p_this p_script p_told p_draft p_course p_trial p_imageZero p_imageOne p_ledDoughs p_ledOvens p_rowSearch p_told_ovenNumbers p_told_doughNumbers p_course_rows v_keptImages v_ledCount v_traceSum v_told_ovenCount v_told_doughCount v_course_knownSteps f_told_ovenNumbers f_course_rows f_told_doughNumbers) res := by
  refine PureI.of (by decide) (Nat.le_of_ble_eq_true rfl) ?_
  intro p e s m args below meth c Q A X hK hA hret H locs ls hl hP hS
  obtain ⟨hx, hb, hml, hown, hts, hrt, hlk⟩ := id X
  have hl : lv_has ls 3 [(0, .ref p_this), (1, .int x1), (2, .int x2)] := hl
  unfold f_X4_smell at hf
  refine lv_aload_n hx hb dX4_smell_0 rfl (lv_at hl 0 rfl) ?_
  refine gf_RX4_19 X hK hP 0 rfl rfl dX4_smell_1 ?_
  refine lv_iload_n hx hb dX4_smell_4 rfl (lv_at hl 1 rfl) ?_
  obtain ⟨u_1, hu_1, hf⟩ := ob hf
  refine pV X hK hA hP hS hl.1 (m_X3_hasOven (l := l) E p_told p_told_ovenNumbers p_told_doughNumbers v_told_ovenCount v_told_doughCount x1 u_1 hu_1) kRX4_81 [1] rfl rfl rfl rfl ⟨⟨(Nat.le_of_ble_eq_true rfl), (Nat.le_of_ble_eq_true rfl)⟩, Nat.zero_le _, Nat.zero_le _⟩ rfl rfl (Nat.le_of_ble_eq_true rfl) dX4_smell_5 (fun H locs hP hS => ?_)
  refine lv_if_eq (tgt := 22) hx hb dX4_smell_8 (by decide) (fun c_2 => ?_) (fun c_2 => ?_)
  · replace hf := ot c_2 hf
    refine lv_ldc hx hb hown (hts _ q304) dX4_smell_22 ?_
    obtain rfl := Option.some.inj hf
    exact hret H locs _ ls rfl hP hS dX4_smell_24
  · replace hf := of c_2 hf
    refine lv_aload_n hx hb dX4_smell_11 rfl (lv_at hl 0 rfl) ?_
    refine gf_RX4_19 X hK hP 0 rfl rfl dX4_smell_12 ?_
    refine lv_iload_n hx hb dX4_smell_15 rfl (lv_at hl 2 rfl) ?_
    obtain ⟨u_3, hu_3, hf⟩ := ob hf
    refine pV X hK hA hP hS hl.1 (m_X3_hasDough (l := l) E p_told p_told_ovenNumbers p_told_doughNumbers v_told_ovenCount v_told_doughCount x2 u_3 hu_3) kRX4_99 [1] rfl rfl rfl rfl ⟨⟨(Nat.le_of_ble_eq_true rfl), (Nat.le_of_ble_eq_true rfl)⟩, Nat.zero_le _, Nat.zero_le _⟩ rfl rfl (Nat.le_of_ble_eq_true rfl) dX4_smell_16 (fun H locs hP hS => ?_)
    refine lv_if_ne (tgt := 25) hx hb dX4_smell_19 (by decide) (fun c_4 => ?_) (fun c_4 => ?_)
    · replace hf := of c_4 hf
      refine lv_aload_n hx hb dX4_smell_25 rfl (lv_at hl 0 rfl) ?_
      refine lv_iload_n hx hb dX4_smell_26 rfl (lv_at hl 1 rfl) ?_
      refine lv_iload_n hx hb dX4_smell_27 rfl (lv_at hl 2 rfl) ?_
      refine lv_iconst (v := (-1 : Int32)) hx hb dX4_smell_28 (by decide) ?_
      obtain ⟨u_5, hu_5, hf⟩ := ob hf
      refine pV X hK hA hP hS hl.1 (m_X4_smellOf (l := l) E p_this p_script p_told p_draft p_course p_trial p_imageZero p_imageOne p_ledDoughs p_ledOvens p_rowSearch p_told_ovenNumbers p_told_doughNumbers p_course_rows v_keptImages v_ledCount v_traceSum v_told_ovenCount v_told_doughCount v_course_knownSteps f_told_ovenNumbers f_course_rows f_told_doughNumbers x1 x2 (-1 : Int32) u_5 hu_5) kRX4_118 [0, 1, 2, 3, 4, 5] rfl rfl rfl rfl ⟨⟨(Nat.le_of_ble_eq_true rfl), (Nat.le_of_ble_eq_true rfl)⟩, Nat.zero_le _, Nat.zero_le _⟩ rfl rfl (Nat.le_of_ble_eq_true rfl) dX4_smell_29 (fun H locs hP hS => ?_)
      obtain rfl := Option.some.inj hf
      exact hret H locs _ ls rfl hP hS dX4_smell_32
    · replace hf := ot c_4 hf
      refine lv_ldc hx hb hown (hts _ q304) dX4_smell_22 ?_
      obtain rfl := Option.some.inj hf
      exact hret H locs _ ls rfl hP hS dX4_smell_24

abbrev w_X4_mayGoIn (E : Ev) (p_this : Nat) (p_script : Nat) (p_told : Nat) (p_draft : Nat) (p_course : Nat) (p_trial : Nat) (p_imageZero : Nat) (p_imageOne : Nat) (p_ledDoughs : Nat) (p_ledOvens : Nat) (p_rowSearch : Nat) (p_course_rows : Nat) (p_told_ovenNumbers : Nat) (p_told_doughNumbers : Nat) (v_keptImages : Int32) (v_ledCount : Int32) (v_traceSum : Int64) (v_course_knownSteps : Int32) (v_told_ovenCount : Int32) (v_told_doughCount : Int32) (f_course_rows : Nat → Int32) (f_told_doughNumbers : Nat → Int32) : va_W := [(p_this, .inr (4, [.ref p_script, .ref p_told, .ref p_draft, .ref p_course, .ref p_trial, .ref p_imageZero, .ref p_imageOne, .int v_keptImages, .ref p_ledDoughs, .ref p_ledOvens, .int v_ledCount, .ref p_rowSearch, .long v_traceSum])), (p_course, .inr (0, [.ref p_course_rows, .int v_course_knownSteps])), (p_course_rows, .inl (E.2.1, 154, .inl f_course_rows)), (p_told, .inr (3, [.ref p_told_ovenNumbers, .ref p_told_doughNumbers, .int v_told_ovenCount, .int v_told_doughCount])), (p_told_doughNumbers, .inl (E.2.1, 30, .inl f_told_doughNumbers))]
set_option maxHeartbeats 4000000 in
set_option maxRecDepth 100000 in
theorem m_X4_mayGoIn {l : Launch} (E : Ev) (p_this : Nat) (p_script : Nat) (p_told : Nat) (p_draft : Nat) (p_course : Nat) (p_trial : Nat) (p_imageZero : Nat) (p_imageOne : Nat) (p_ledDoughs : Nat) (p_ledOvens : Nat) (p_rowSearch : Nat) (p_course_rows : Nat) (p_told_ovenNumbers : Nat) (p_told_doughNumbers : Nat) (v_keptImages : Int32) (v_ledCount : Int32) (v_traceSum : Int64) (v_course_knownSteps : Int32) (v_told_ovenCount : Int32) (v_told_doughCount : Int32) (f_course_rows : Nat → Int32) (f_told_doughNumbers : Nat → Int32) (x1 : Int32) (res : Int32) (hf : f_X4_mayGoIn  v_course_knownSteps v_told_doughCount f_course_rows f_told_doughNumbers x1 = some res) : PureI l E 4 yX4_mayGoIn cX4_mayGoIn 3 .boolean [.ref p_this, .int x1] (w_X4_mayGoIn E p_this p_script p_told p_draft p_course p_trial p_imageZero p_imageOne p_ledDoughs p_ledOvens p_rowSearch p_course_rows p_told_ovenNumbers p_told_doughNumbers v_keptImages v_ledCount v_traceSum v_course_knownSteps v_told_ovenCount v_told_doughCount f_course_rows f_told_doughNumbers) res := by
  refine PureI.of (by decide) (Nat.le_of_ble_eq_true rfl) ?_
  intro p e s m args below meth c Q A X hK hA hret H locs ls hl hP hS
  obtain ⟨hx, hb, hml, hown, hts, hrt, hlk⟩ := id X
  have hl : lv_has ls 3 [(0, .ref p_this), (1, .int x1)] := hl
  unfold f_X4_mayGoIn at hf
  refine lv_aload_n hx hb dX4_mayGoIn_0 rfl (lv_at hl 0 rfl) ?_
  refine gf_RX4_29 X hK hP 0 rfl rfl dX4_mayGoIn_1 ?_
  obtain ⟨u_1, hu_1, hf⟩ := ob hf
  refine pV X hK hA hP hS hl.1 (m_X0_minute (l := l) E p_course p_course_rows v_course_knownSteps f_course_rows  u_1 hu_1) kRX4_137 [1, 2] rfl rfl rfl rfl ⟨⟨(Nat.le_of_ble_eq_true rfl), (Nat.le_of_ble_eq_true rfl)⟩, Nat.zero_le _, Nat.zero_le _⟩ rfl rfl (Nat.le_of_ble_eq_true rfl) dX4_mayGoIn_4 (fun H locs hP hS => ?_)
  refine lv_istore_n (lv' := [(2, .int u_1), (0, .ref p_this), (1, .int x1)]) hx hb dX4_mayGoIn_7 rfl hl (by decide) rfl (fun ls hl => ?_)
  refine lv_aload_n hx hb dX4_mayGoIn_8 rfl (lv_at hl 1 rfl) ?_
  refine lv_iload_n hx hb dX4_mayGoIn_9 rfl (lv_at hl 2 rfl) ?_
  obtain ⟨u_2, hu_2, hf⟩ := ob hf
  refine pV X hK hA hP hS hl.1 (m_X4_isOut (l := l) E p_this p_script p_told p_draft p_course p_trial p_imageZero p_imageOne p_ledDoughs p_ledOvens p_rowSearch p_course_rows v_keptImages v_ledCount v_traceSum v_course_knownSteps f_course_rows x1 u_2 hu_2) kRX4_112 [0, 1, 2] rfl rfl rfl rfl ⟨⟨(Nat.le_of_ble_eq_true rfl), (Nat.le_of_ble_eq_true rfl)⟩, Nat.zero_le _, Nat.zero_le _⟩ rfl rfl (Nat.le_of_ble_eq_true rfl) dX4_mayGoIn_10 (fun H locs hP hS => ?_)
  refine lv_if_eq (tgt := 46) hx hb dX4_mayGoIn_13 (by decide) (fun c_3 => ?_) (fun c_3 => ?_)
  · replace hf := ot c_3 hf
    refine lv_iconst (v := (0 : Int32)) hx hb dX4_mayGoIn_46 (by decide) ?_
    obtain rfl := Option.some.inj hf
    exact hret H locs _ ls nar0 hP hS dX4_mayGoIn_47
  · replace hf := of c_3 hf
    refine lv_iload_n hx hb dX4_mayGoIn_16 rfl (lv_at hl 0 rfl) ?_
    refine lv_aload_n hx hb dX4_mayGoIn_17 rfl (lv_at hl 1 rfl) ?_
    refine gf_RX4_19 X hK hP 0 rfl rfl dX4_mayGoIn_18 ?_
    refine lv_iload_n hx hb dX4_mayGoIn_21 rfl (lv_at hl 2 rfl) ?_
    refine lv_iconst (v := (3 : Int32)) hx hb dX4_mayGoIn_22 (by decide) ?_
    obtain ⟨u_4, hu_4, hf⟩ := ob hf
    refine pV X hK hA hP hS hl.1 (m_X3_ofDough (l := l) E p_told p_told_ovenNumbers p_told_doughNumbers v_told_ovenCount v_told_doughCount f_told_doughNumbers x1 (3 : Int32) u_4 hu_4) kRX4_102 [3, 4] rfl rfl rfl rfl ⟨⟨(Nat.le_of_ble_eq_true rfl), (Nat.le_of_ble_eq_true rfl)⟩, Nat.zero_le _, Nat.zero_le _⟩ rfl rfl (Nat.le_of_ble_eq_true rfl) dX4_mayGoIn_23 (fun H locs hP hS => ?_)
    refine lv_icmp_lt (tgt := 46) hx hb dX4_mayGoIn_26 (by decide) (fun c_5 => ?_) (fun c_5 => ?_)
    · replace hf := ot c_5 hf
      refine lv_iconst (v := (0 : Int32)) hx hb dX4_mayGoIn_46 (by decide) ?_
      obtain rfl := Option.some.inj hf
      exact hret H locs _ ls nar0 hP hS dX4_mayGoIn_47
    · replace hf := of c_5 hf
      refine lv_iload_n hx hb dX4_mayGoIn_29 rfl (lv_at hl 0 rfl) ?_
      refine lv_aload_n hx hb dX4_mayGoIn_30 rfl (lv_at hl 1 rfl) ?_
      refine gf_RX4_19 X hK hP 0 rfl rfl dX4_mayGoIn_31 ?_
      refine lv_iload_n hx hb dX4_mayGoIn_34 rfl (lv_at hl 2 rfl) ?_
      refine lv_iconst (v := (4 : Int32)) hx hb dX4_mayGoIn_35 (by decide) ?_
      obtain ⟨u_6, hu_6, hf⟩ := ob hf
      refine pV X hK hA hP hS hl.1 (m_X3_ofDough (l := l) E p_told p_told_ovenNumbers p_told_doughNumbers v_told_ovenCount v_told_doughCount f_told_doughNumbers x1 (4 : Int32) u_6 hu_6) kRX4_102 [3, 4] rfl rfl rfl rfl ⟨⟨(Nat.le_of_ble_eq_true rfl), (Nat.le_of_ble_eq_true rfl)⟩, Nat.zero_le _, Nat.zero_le _⟩ rfl rfl (Nat.le_of_ble_eq_true rfl) dX4_mayGoIn_36 (fun H locs hP hS => ?_)
      refine lv_icmp_gt (tgt := 46) hx hb dX4_mayGoIn_39 (by decide) (fun c_7 => ?_) (fun c_7 => ?_)
      · replace hf := ot c_7 hf
        refine lv_iconst (v := (0 : Int32)) hx hb dX4_mayGoIn_46 (by decide) ?_
        obtain rfl := Option.some.inj hf
        exact hret H locs _ ls nar0 hP hS dX4_mayGoIn_47
      · replace hf := of c_7 hf
        refine lv_iconst (v := (1 : Int32)) hx hb dX4_mayGoIn_42 (by decide) ?_
        refine lv_goto (tgt := 47) hx hb dX4_mayGoIn_43 (by decide) ?_
        obtain rfl := Option.some.inj hf
        exact hret H locs _ ls nar1 hP hS dX4_mayGoIn_47

abbrev w_X4_follows (E : Ev) (p_this : Nat) (p_script : Nat) (p_told : Nat) (p_draft : Nat) (p_course : Nat) (p_trial : Nat) (p_imageZero : Nat) (p_imageOne : Nat) (p_ledDoughs : Nat) (p_ledOvens : Nat) (p_rowSearch : Nat) (p_told_ovenNumbers : Nat) (p_told_doughNumbers : Nat) (p_course_rows : Nat) (v_keptImages : Int32) (v_ledCount : Int32) (v_traceSum : Int64) (v_told_ovenCount : Int32) (v_told_doughCount : Int32) (v_course_knownSteps : Int32) (f_course_rows : Nat → Int32) (f_told_ovenNumbers : Nat → Int32) (f_told_doughNumbers : Nat → Int32) : va_W := [(p_this, .inr (4, [.ref p_script, .ref p_told, .ref p_draft, .ref p_course, .ref p_trial, .ref p_imageZero, .ref p_imageOne, .int v_keptImages, .ref p_ledDoughs, .ref p_ledOvens, .int v_ledCount, .ref p_rowSearch, .long v_traceSum])), (p_told, .inr (3, [.ref p_told_ovenNumbers, .ref p_told_doughNumbers, .int v_told_ovenCount, .int v_told_doughCount])), (p_course, .inr (0, [.ref p_course_rows, .int v_course_knownSteps])), (p_course_rows, .inl (E.2.1, 154, .inl f_course_rows)), (p_told_ovenNumbers, .inl (E.2.1, 10, .inl f_told_ovenNumbers)), (p_told_doughNumbers, .inl (E.2.1, 30, .inl f_told_doughNumbers))]
set_option maxHeartbeats 4000000 in
set_option maxRecDepth 100000 in
theorem m_X4_follows {l : Launch} (E : Ev) (p_this : Nat) (p_script : Nat) (p_told : Nat) (p_draft : Nat) (p_course : Nat) (p_trial : Nat) (p_imageZero : Nat) (p_imageOne : Nat) (p_ledDoughs : Nat) (p_ledOvens : Nat) (p_rowSearch : Nat) (p_told_ovenNumbers : Nat) (p_told_doughNumbers : Nat) (p_course_rows : Nat) (v_keptImages : Int32) (v_ledCount : Int32) (v_traceSum : Int64) (v_told_ovenCount : Int32) (v_told_doughCount : Int32) (v_course_knownSteps : Int32) (f_course_rows : Nat → Int32) (f_told_ovenNumbers : Nat → Int32) (f_told_doughNumbers : Nat → Int32) (x1 : Int32) (res : Int32 × Int32 × (Nat → Int32)) (hf : f_X4_follows  v_told_ovenCount v_told_doughCount f_told_ovenNumbers f_told_doughNumbers v_course_knownSteps f_course_rows x1 = some res) : MutI l E 6 yX4_follows cX4_follows 3 .int [.ref p_this, .int x1] (w_X4_follows E p_this p_script p_told p_draft p_course p_trial p_imageZero p_imageOne p_ledDoughs p_ledOvens p_rowSearch p_told_ovenNumbers p_told_doughNumbers p_course_rows v_keptImages v_ledCount v_traceSum v_told_ovenCount v_told_doughCount v_course_knownSteps f_course_rows f_told_ovenNumbers f_told_doughNumbers) (w_X4_follows E p_this p_script p_told p_draft p_course p_trial p_imageZero p_imageOne p_ledDoughs p_ledOvens p_rowSearch p_told_ovenNumbers p_told_doughNumbers p_course_rows v_keptImages v_ledCount v_traceSum v_told_ovenCount v_told_doughCount res.2.1 res.2.2 f_told_ovenNumbers f_told_doughNumbers) res.1 := by
  refine MutI.of (by decide) (Nat.le_of_ble_eq_true rfl) ?_
  intro p e s m args below meth c Q A X hK hA hret H locs ls hl hP hD hS
  obtain ⟨hx, hb, hml, hown, hts, hrt, hlk⟩ := id X
  have hl : lv_has ls 3 [(0, .ref p_this), (1, .int x1)] := hl
  unfold f_X4_follows at hf
  refine lv_aload_n hx hb dX4_follows_0 rfl (lv_at hl 0 rfl) ?_
  refine gf_RX4_19 X hK hP 0 rfl rfl dX4_follows_1 ?_
  refine lv_iload_n hx hb dX4_follows_4 rfl (lv_at hl 1 rfl) ?_
  obtain ⟨u_1, hu_1, hf⟩ := ob hf
  refine pV X hK hA hP hS hl.1 (m_X3_hasDough (l := l) E p_told p_told_ovenNumbers p_told_doughNumbers v_told_ovenCount v_told_doughCount x1 u_1 hu_1) kRX4_99 [1] rfl rfl rfl rfl ⟨⟨(Nat.le_of_ble_eq_true rfl), (Nat.le_of_ble_eq_true rfl)⟩, Nat.zero_le _, Nat.zero_le _⟩ rfl rfl (Nat.le_of_ble_eq_true rfl) dX4_follows_5 (fun H locs hP hS => ?_)
  refine lv_if_ne (tgt := 13) hx hb dX4_follows_8 (by decide) (fun c_2 => ?_) (fun c_2 => ?_)
  · replace hf := of c_2 hf
    refine lv_aload_n hx hb dX4_follows_13 rfl (lv_at hl 0 rfl) ?_
    refine lv_iload_n hx hb dX4_follows_14 rfl (lv_at hl 1 rfl) ?_
    refine lv_iconst (v := (-1 : Int32)) hx hb dX4_follows_15 (by decide) ?_
    obtain ⟨u_3, hu_3, hf⟩ := ob hf
    refine pV X hK hA hP hS hl.1 (m_X4_noseOf (l := l) E p_this p_script p_told p_draft p_course p_trial p_imageZero p_imageOne p_ledDoughs p_ledOvens p_rowSearch p_told_ovenNumbers p_told_doughNumbers p_course_rows v_keptImages v_ledCount v_traceSum v_told_ovenCount v_told_doughCount v_course_knownSteps f_course_rows f_told_ovenNumbers f_told_doughNumbers x1 (-1 : Int32) u_3 hu_3) kRX4_115 [0, 1, 2, 3, 4, 5] rfl rfl rfl rfl ⟨⟨(Nat.le_of_ble_eq_true rfl), (Nat.le_of_ble_eq_true rfl)⟩, Nat.zero_le _, Nat.zero_le _⟩ rfl rfl (Nat.le_of_ble_eq_true rfl) dX4_follows_16 (fun H locs hP hS => ?_)
    refine lv_istore_n (lv' := [(2, .int u_3), (0, .ref p_this), (1, .int x1)]) hx hb dX4_follows_19 rfl hl (by decide) rfl (fun ls hl => ?_)
    refine lv_aload_n hx hb dX4_follows_20 rfl (lv_at hl 1 rfl) ?_
    refine lv_iload_n hx hb dX4_follows_21 rfl (lv_at hl 2 rfl) ?_
    obtain ⟨u_4, hu_4, hf⟩ := ob hf
    refine pV X hK hA hP hS hl.1 (m_X4_mayGoIn (l := l) E p_this p_script p_told p_draft p_course p_trial p_imageZero p_imageOne p_ledDoughs p_ledOvens p_rowSearch p_course_rows p_told_ovenNumbers p_told_doughNumbers v_keptImages v_ledCount v_traceSum v_course_knownSteps v_told_ovenCount v_told_doughCount f_course_rows f_told_doughNumbers x1 u_4 hu_4) kRX4_122 [0, 2, 3, 1, 5] rfl rfl rfl rfl ⟨⟨(Nat.le_of_ble_eq_true rfl), (Nat.le_of_ble_eq_true rfl)⟩, Nat.zero_le _, Nat.zero_le _⟩ rfl rfl (Nat.le_of_ble_eq_true rfl) dX4_follows_22 (fun H locs hP hS => ?_)
    refine lv_if_eq (tgt := 34) hx hb dX4_follows_25 (by decide) (fun c_5 => ?_) (fun c_5 => ?_)
    · replace hf := ot c_5 hf
      refine lv_bipush (v := (-2 : Int32)) hx hb dX4_follows_34 (by decide) ?_
      obtain rfl := Option.some.inj hf
      exact hret H locs _ ls rfl hP hS dX4_follows_36
    · replace hf := of c_5 hf
      refine lv_iload_n hx hb dX4_follows_28 rfl (lv_at hl 0 rfl) ?_
      refine lv_bipush (v := (-9 : Int32)) hx hb dX4_follows_29 (by decide) ?_
      refine lv_icmp_ne (tgt := 37) hx hb dX4_follows_31 (by decide) (fun c_6 => ?_) (fun c_6 => ?_)
      · replace hf := of c_6 hf
        refine lv_aload_n hx hb dX4_follows_37 rfl (lv_at hl 1 rfl) ?_
        refine gf_RX4_29 X hK hP 0 rfl rfl dX4_follows_38 ?_
        obtain ⟨u_7, hu_7, hf⟩ := ob hf
        refine mVv X hK hA hP hD hS hl.1 (m_X0_remember (l := l) E p_course p_course_rows v_course_knownSteps f_course_rows  u_7 hu_7) kRX4_125 [2, 3] rfl rfl (by simp only [w_X0_remember, List.map]) rfl rfl rfl ⟨⟨(Nat.le_of_ble_eq_true rfl), (Nat.le_of_ble_eq_true rfl)⟩, Nat.zero_le _, Nat.zero_le _⟩ rfl rfl (Nat.le_of_ble_eq_true rfl) dX4_follows_41 (fun H locs hP hD hS => ?_)
        have hP : va_P E.1 classes (w_X4_follows E p_this p_script p_told p_draft p_course p_trial p_imageZero p_imageOne p_ledDoughs p_ledOvens p_rowSearch p_told_ovenNumbers p_told_doughNumbers p_course_rows v_keptImages v_ledCount v_traceSum v_told_ovenCount v_told_doughCount u_7.1 u_7.2 f_told_ovenNumbers f_told_doughNumbers) H := hP
        have hD : va_D A (w_X4_follows E p_this p_script p_told p_draft p_course p_trial p_imageZero p_imageOne p_ledDoughs p_ledOvens p_rowSearch p_told_ovenNumbers p_told_doughNumbers p_course_rows v_keptImages v_ledCount v_traceSum v_told_ovenCount v_told_doughCount u_7.1 u_7.2 f_told_ovenNumbers f_told_doughNumbers) := hD
        refine lv_aload_n hx hb dX4_follows_44 rfl (lv_at hl 1 rfl) ?_
        refine gf_RX4_29 X hK hP 0 rfl rfl dX4_follows_45 ?_
        refine lv_iload_n hx hb dX4_follows_48 rfl (lv_at hl 2 rfl) ?_
        refine lv_iload_n hx hb dX4_follows_49 rfl (lv_at hl 0 rfl) ?_
        obtain ⟨u_8, hu_8, hf⟩ := ob hf
        refine mVv X hK hA hP hD hS hl.1 (m_X0_putIn (l := l) E p_course p_course_rows u_7.1 u_7.2 x1 u_3 u_8 hu_8) kRX4_128 [2, 3] rfl rfl (by simp only [w_X0_putIn, List.map]) rfl rfl rfl ⟨⟨(Nat.le_of_ble_eq_true rfl), (Nat.le_of_ble_eq_true rfl)⟩, Nat.zero_le _, Nat.zero_le _⟩ rfl rfl (Nat.le_of_ble_eq_true rfl) dX4_follows_50 (fun H locs hP hD hS => ?_)
        have hP : va_P E.1 classes (w_X4_follows E p_this p_script p_told p_draft p_course p_trial p_imageZero p_imageOne p_ledDoughs p_ledOvens p_rowSearch p_told_ovenNumbers p_told_doughNumbers p_course_rows v_keptImages v_ledCount v_traceSum v_told_ovenCount v_told_doughCount u_7.1 u_8 f_told_ovenNumbers f_told_doughNumbers) H := hP
        have hD : va_D A (w_X4_follows E p_this p_script p_told p_draft p_course p_trial p_imageZero p_imageOne p_ledDoughs p_ledOvens p_rowSearch p_told_ovenNumbers p_told_doughNumbers p_course_rows v_keptImages v_ledCount v_traceSum v_told_ovenCount v_told_doughCount u_7.1 u_8 f_told_ovenNumbers f_told_doughNumbers) := hD
        refine lv_iload_n hx hb dX4_follows_53 rfl (lv_at hl 0 rfl) ?_
        obtain rfl := Option.some.inj hf
        exact hret H locs _ ls rfl hP hS dX4_follows_54
      · replace hf := ot c_6 hf
        refine lv_bipush (v := (-2 : Int32)) hx hb dX4_follows_34 (by decide) ?_
        obtain rfl := Option.some.inj hf
        exact hret H locs _ ls rfl hP hS dX4_follows_36
  · replace hf := ot c_2 hf
    refine lv_iconst (v := (-1 : Int32)) hx hb dX4_follows_11 (by decide) ?_
    obtain rfl := Option.some.inj hf
    exact hret H locs _ ls rfl hP hS dX4_follows_12

abbrev w_X4_puts (E : Ev) (p_this : Nat) (p_script : Nat) (p_told : Nat) (p_draft : Nat) (p_course : Nat) (p_trial : Nat) (p_imageZero : Nat) (p_imageOne : Nat) (p_ledDoughs : Nat) (p_ledOvens : Nat) (p_rowSearch : Nat) (p_told_ovenNumbers : Nat) (p_told_doughNumbers : Nat) (p_course_rows : Nat) (v_keptImages : Int32) (v_ledCount : Int32) (v_traceSum : Int64) (v_told_ovenCount : Int32) (v_told_doughCount : Int32) (v_course_knownSteps : Int32) (f_course_rows : Nat → Int32) (f_told_doughNumbers : Nat → Int32) : va_W := [(p_this, .inr (4, [.ref p_script, .ref p_told, .ref p_draft, .ref p_course, .ref p_trial, .ref p_imageZero, .ref p_imageOne, .int v_keptImages, .ref p_ledDoughs, .ref p_ledOvens, .int v_ledCount, .ref p_rowSearch, .long v_traceSum])), (p_told, .inr (3, [.ref p_told_ovenNumbers, .ref p_told_doughNumbers, .int v_told_ovenCount, .int v_told_doughCount])), (p_course, .inr (0, [.ref p_course_rows, .int v_course_knownSteps])), (p_course_rows, .inl (E.2.1, 154, .inl f_course_rows)), (p_told_doughNumbers, .inl (E.2.1, 30, .inl f_told_doughNumbers))]
set_option maxHeartbeats 4000000 in
set_option maxRecDepth 100000 in
theorem m_X4_puts {l : Launch} (E : Ev) (p_this : Nat) (p_script : Nat) (p_told : Nat) (p_draft : Nat) (p_course : Nat) (p_trial : Nat) (p_imageZero : Nat) (p_imageOne : Nat) (p_ledDoughs : Nat) (p_ledOvens : Nat) (p_rowSearch : Nat) (p_told_ovenNumbers : Nat) (p_told_doughNumbers : Nat) (p_course_rows : Nat) (v_keptImages : Int32) (v_ledCount : Int32) (v_traceSum : Int64) (v_told_ovenCount : Int32) (v_told_doughCount : Int32) (v_course_knownSteps : Int32) (f_course_rows : Nat → Int32) (f_told_doughNumbers : Nat → Int32) (x1 : Int32) (x2 : Int32) (res : Int32 × Int32 × (Nat → Int32)) (hf : f_X4_puts  v_told_ovenCount v_told_doughCount f_told_doughNumbers v_course_knownSteps f_course_rows x1 x2 = some res) : MutI l E 5 yX4_puts cX4_puts 3 .int [.ref p_this, .int x1, .int x2] (w_X4_puts E p_this p_script p_told p_draft p_course p_trial p_imageZero p_imageOne p_ledDoughs p_ledOvens p_rowSearch p_told_ovenNumbers p_told_doughNumbers p_course_rows v_keptImages v_ledCount v_traceSum v_told_ovenCount v_told_doughCount v_course_knownSteps f_course_rows f_told_doughNumbers) (w_X4_puts E p_this p_script p_told p_draft p_course p_trial p_imageZero p_imageOne p_ledDoughs p_ledOvens p_rowSearch p_told_ovenNumbers p_told_doughNumbers p_course_rows v_keptImages v_ledCount v_traceSum v_told_ovenCount v_told_doughCount res.2.1 res.2.2 f_told_doughNumbers) res.1 := by
  refine MutI.of (by decide) (Nat.le_of_ble_eq_true rfl) ?_
  intro p e s m args below meth c Q A X hK hA hret H locs ls hl hP hD hS
  obtain ⟨hx, hb, hml, hown, hts, hrt, hlk⟩ := id X
  have hl : lv_has ls 3 [(0, .ref p_this), (1, .int x1), (2, .int x2)] := hl
  unfold f_X4_puts at hf
  refine lv_aload_n hx hb dX4_puts_0 rfl (lv_at hl 0 rfl) ?_
  refine gf_RX4_19 X hK hP 0 rfl rfl dX4_puts_1 ?_
  refine lv_iload_n hx hb dX4_puts_4 rfl (lv_at hl 1 rfl) ?_
  obtain ⟨u_1, hu_1, hf⟩ := ob hf
  refine pV X hK hA hP hS hl.1 (m_X3_hasDough (l := l) E p_told p_told_ovenNumbers p_told_doughNumbers v_told_ovenCount v_told_doughCount x1 u_1 hu_1) kRX4_99 [1] rfl rfl rfl rfl ⟨⟨(Nat.le_of_ble_eq_true rfl), (Nat.le_of_ble_eq_true rfl)⟩, Nat.zero_le _, Nat.zero_le _⟩ rfl rfl (Nat.le_of_ble_eq_true rfl) dX4_puts_5 (fun H locs hP hS => ?_)
  refine lv_if_eq (tgt := 22) hx hb dX4_puts_8 (by decide) (fun c_2 => ?_) (fun c_2 => ?_)
  · replace hf := ot c_2 hf
    refine lv_iconst (v := (-1 : Int32)) hx hb dX4_puts_22 (by decide) ?_
    obtain rfl := Option.some.inj hf
    exact hret H locs _ ls rfl hP hS dX4_puts_23
  · replace hf := of c_2 hf
    refine lv_aload_n hx hb dX4_puts_11 rfl (lv_at hl 0 rfl) ?_
    refine gf_RX4_19 X hK hP 0 rfl rfl dX4_puts_12 ?_
    refine lv_iload_n hx hb dX4_puts_15 rfl (lv_at hl 2 rfl) ?_
    obtain ⟨u_3, hu_3, hf⟩ := ob hf
    refine pV X hK hA hP hS hl.1 (m_X3_hasOven (l := l) E p_told p_told_ovenNumbers p_told_doughNumbers v_told_ovenCount v_told_doughCount x2 u_3 hu_3) kRX4_81 [1] rfl rfl rfl rfl ⟨⟨(Nat.le_of_ble_eq_true rfl), (Nat.le_of_ble_eq_true rfl)⟩, Nat.zero_le _, Nat.zero_le _⟩ rfl rfl (Nat.le_of_ble_eq_true rfl) dX4_puts_16 (fun H locs hP hS => ?_)
    refine lv_if_ne (tgt := 24) hx hb dX4_puts_19 (by decide) (fun c_4 => ?_) (fun c_4 => ?_)
    · replace hf := of c_4 hf
      refine lv_aload_n hx hb dX4_puts_24 rfl (lv_at hl 0 rfl) ?_
      refine lv_iload_n hx hb dX4_puts_25 rfl (lv_at hl 1 rfl) ?_
      obtain ⟨u_5, hu_5, hf⟩ := ob hf
      refine pV X hK hA hP hS hl.1 (m_X4_mayGoIn (l := l) E p_this p_script p_told p_draft p_course p_trial p_imageZero p_imageOne p_ledDoughs p_ledOvens p_rowSearch p_course_rows p_told_ovenNumbers p_told_doughNumbers v_keptImages v_ledCount v_traceSum v_course_knownSteps v_told_ovenCount v_told_doughCount f_course_rows f_told_doughNumbers x1 u_5 hu_5) kRX4_122 [0, 2, 3, 1, 4] rfl rfl rfl rfl ⟨⟨(Nat.le_of_ble_eq_true rfl), (Nat.le_of_ble_eq_true rfl)⟩, Nat.zero_le _, Nat.zero_le _⟩ rfl rfl (Nat.le_of_ble_eq_true rfl) dX4_puts_26 (fun H locs hP hS => ?_)
      refine lv_if_eq (tgt := 43) hx hb dX4_puts_29 (by decide) (fun c_6 => ?_) (fun c_6 => ?_)
      · replace hf := ot c_6 hf
        refine lv_bipush (v := (-2 : Int32)) hx hb dX4_puts_43 (by decide) ?_
        obtain rfl := Option.some.inj hf
        exact hret H locs _ ls rfl hP hS dX4_puts_45
      · replace hf := of c_6 hf
        refine lv_aload_n hx hb dX4_puts_32 rfl (lv_at hl 0 rfl) ?_
        refine gf_RX4_29 X hK hP 0 rfl rfl dX4_puts_33 ?_
        refine lv_iload_n hx hb dX4_puts_36 rfl (lv_at hl 2 rfl) ?_
        obtain ⟨u_7, hu_7, hf⟩ := ob hf
        refine pV X hK hA hP hS hl.1 (m_X0_isShut (l := l) E p_course p_course_rows v_course_knownSteps f_course_rows x2 u_7 hu_7) kRX4_96 [2, 3] rfl rfl rfl rfl ⟨⟨(Nat.le_of_ble_eq_true rfl), (Nat.le_of_ble_eq_true rfl)⟩, Nat.zero_le _, Nat.zero_le _⟩ rfl rfl (Nat.le_of_ble_eq_true rfl) dX4_puts_37 (fun H locs hP hS => ?_)
        refine lv_if_eq (tgt := 46) hx hb dX4_puts_40 (by decide) (fun c_8 => ?_) (fun c_8 => ?_)
        · replace hf := ot c_8 hf
          refine lv_aload_n hx hb dX4_puts_46 rfl (lv_at hl 0 rfl) ?_
          refine gf_RX4_29 X hK hP 0 rfl rfl dX4_puts_47 ?_
          obtain ⟨u_9, hu_9, hf⟩ := ob hf
          refine mVv X hK hA hP hD hS hl.1 (m_X0_remember (l := l) E p_course p_course_rows v_course_knownSteps f_course_rows  u_9 hu_9) kRX4_125 [2, 3] rfl rfl (by simp only [w_X0_remember, List.map]) rfl rfl rfl ⟨⟨(Nat.le_of_ble_eq_true rfl), (Nat.le_of_ble_eq_true rfl)⟩, Nat.zero_le _, Nat.zero_le _⟩ rfl rfl (Nat.le_of_ble_eq_true rfl) dX4_puts_50 (fun H locs hP hD hS => ?_)
          have hP : va_P E.1 classes (w_X4_puts E p_this p_script p_told p_draft p_course p_trial p_imageZero p_imageOne p_ledDoughs p_ledOvens p_rowSearch p_told_ovenNumbers p_told_doughNumbers p_course_rows v_keptImages v_ledCount v_traceSum v_told_ovenCount v_told_doughCount u_9.1 u_9.2 f_told_doughNumbers) H := hP
          have hD : va_D A (w_X4_puts E p_this p_script p_told p_draft p_course p_trial p_imageZero p_imageOne p_ledDoughs p_ledOvens p_rowSearch p_told_ovenNumbers p_told_doughNumbers p_course_rows v_keptImages v_ledCount v_traceSum v_told_ovenCount v_told_doughCount u_9.1 u_9.2 f_told_doughNumbers) := hD
          refine lv_aload_n hx hb dX4_puts_53 rfl (lv_at hl 0 rfl) ?_
          refine gf_RX4_29 X hK hP 0 rfl rfl dX4_puts_54 ?_
          refine lv_iload_n hx hb dX4_puts_57 rfl (lv_at hl 1 rfl) ?_
          refine lv_iload_n hx hb dX4_puts_58 rfl (lv_at hl 2 rfl) ?_
          obtain ⟨u_10, hu_10, hf⟩ := ob hf
          refine mVv X hK hA hP hD hS hl.1 (m_X0_putIn (l := l) E p_course p_course_rows u_9.1 u_9.2 x1 x2 u_10 hu_10) kRX4_128 [2, 3] rfl rfl (by simp only [w_X0_putIn, List.map]) rfl rfl rfl ⟨⟨(Nat.le_of_ble_eq_true rfl), (Nat.le_of_ble_eq_true rfl)⟩, Nat.zero_le _, Nat.zero_le _⟩ rfl rfl (Nat.le_of_ble_eq_true rfl) dX4_puts_59 (fun H locs hP hD hS => ?_)
          have hP : va_P E.1 classes (w_X4_puts E p_this p_script p_told p_draft p_course p_trial p_imageZero p_imageOne p_ledDoughs p_ledOvens p_rowSearch p_told_ovenNumbers p_told_doughNumbers p_course_rows v_keptImages v_ledCount v_traceSum v_told_ovenCount v_told_doughCount u_9.1 u_10 f_told_doughNumbers) H := hP
          have hD : va_D A (w_X4_puts E p_this p_script p_told p_draft p_course p_trial p_imageZero p_imageOne p_ledDoughs p_ledOvens p_rowSearch p_told_ovenNumbers p_told_doughNumbers p_course_rows v_keptImages v_ledCount v_traceSum v_told_ovenCount v_told_doughCount u_9.1 u_10 f_told_doughNumbers) := hD
          refine lv_aload_n hx hb dX4_puts_62 rfl (lv_at hl 0 rfl) ?_
          refine gf_RX4_29 X hK hP 0 rfl rfl dX4_puts_63 ?_
          refine lv_aload_n hx hb dX4_puts_66 rfl (lv_at hl 0 rfl) ?_
          refine gf_RX4_19 X hK hP 0 rfl rfl dX4_puts_67 ?_
          refine lv_iload_n hx hb dX4_puts_70 rfl (lv_at hl 2 rfl) ?_
          obtain ⟨u_11, hu_11, hf⟩ := ob hf
          refine pV X hK hA hP hS hl.1 (m_X0_placedAt (l := l) E p_course p_course_rows p_told p_told_ovenNumbers p_told_doughNumbers u_9.1 v_told_ovenCount v_told_doughCount u_10 x2 u_11 hu_11) kRX4_89 [2, 1, 3] rfl rfl rfl rfl ⟨⟨(Nat.le_of_ble_eq_true rfl), (Nat.le_of_ble_eq_true rfl)⟩, Nat.zero_le _, Nat.zero_le _⟩ rfl rfl (Nat.le_of_ble_eq_true rfl) dX4_puts_71 (fun H locs hP hS => ?_)
          obtain ⟨u_12, hu_12, hf⟩ := ob hf
          refine pS X hK hA hP hS hl.1 (m_J6_bitCount_0f7a4 (l := l) E   u_11 u_12 hu_12) kRX4_132 ⟨⟨(Nat.le_of_ble_eq_true rfl), (Nat.le_of_ble_eq_true rfl)⟩, Nat.zero_le _, Nat.zero_le _⟩ rfl rfl (Nat.le_of_ble_eq_true rfl) dX4_puts_74 (fun H locs hP hS => ?_)
          obtain rfl := Option.some.inj hf
          exact hret H locs _ ls rfl hP hS dX4_puts_77
        · replace hf := of c_8 hf
          refine lv_bipush (v := (-2 : Int32)) hx hb dX4_puts_43 (by decide) ?_
          obtain rfl := Option.some.inj hf
          exact hret H locs _ ls rfl hP hS dX4_puts_45
    · replace hf := ot c_4 hf
      refine lv_iconst (v := (-1 : Int32)) hx hb dX4_puts_22 (by decide) ?_
      obtain rfl := Option.some.inj hf
      exact hret H locs _ ls rfl hP hS dX4_puts_23

abbrev w_X4_minutes (E : Ev) (p_this : Nat) (p_script : Nat) (p_told : Nat) (p_draft : Nat) (p_course : Nat) (p_trial : Nat) (p_imageZero : Nat) (p_imageOne : Nat) (p_ledDoughs : Nat) (p_ledOvens : Nat) (p_rowSearch : Nat) (p_course_rows : Nat) (p_told_ovenNumbers : Nat) (p_told_doughNumbers : Nat) (v_keptImages : Int32) (v_ledCount : Int32) (v_traceSum : Int64) (v_course_knownSteps : Int32) (v_told_ovenCount : Int32) (v_told_doughCount : Int32) (f_course_rows : Nat → Int32) (f_told_ovenNumbers : Nat → Int32) (f_told_doughNumbers : Nat → Int32) : va_W := [(p_this, .inr (4, [.ref p_script, .ref p_told, .ref p_draft, .ref p_course, .ref p_trial, .ref p_imageZero, .ref p_imageOne, .int v_keptImages, .ref p_ledDoughs, .ref p_ledOvens, .int v_ledCount, .ref p_rowSearch, .long v_traceSum])), (p_course, .inr (0, [.ref p_course_rows, .int v_course_knownSteps])), (p_course_rows, .inl (E.2.1, 154, .inl f_course_rows)), (p_told, .inr (3, [.ref p_told_ovenNumbers, .ref p_told_doughNumbers, .int v_told_ovenCount, .int v_told_doughCount])), (p_told_ovenNumbers, .inl (E.2.1, 10, .inl f_told_ovenNumbers)), (p_told_doughNumbers, .inl (E.2.1, 30, .inl f_told_doughNumbers))]
set_option maxHeartbeats 4000000 in
set_option maxRecDepth 100000 in
theorem b_X4_minutes_57 {p : Program} {l : Launch} {e : Env} {s : State} {m : MethodId} {args : Array Value} {below : List Frame} {meth : Method} {c : Code} {Q : State → Prop} {A : Nat → Prop} (E : Ev) (p_this : Nat) (p_script : Nat) (p_told : Nat) (p_draft : Nat) (p_course : Nat) (p_trial : Nat) (p_imageZero : Nat) (p_imageOne : Nat) (p_ledDoughs : Nat) (p_ledOvens : Nat) (p_rowSearch : Nat) (p_course_rows : Nat) (p_told_ovenNumbers : Nat) (p_told_doughNumbers : Nat) (v_keptImages : Int32) (v_ledCount : Int32) (v_traceSum : Int64) (v_told_ovenCount : Int32) (v_told_doughCount : Int32) (f_told_ovenNumbers : Nat → Int32) (f_told_doughNumbers : Nat → Int32) (res : Int32 × Int32 × (Nat → Int32)) (X : Cx p s m args meth c cX4_minutes 4 RX4 (some .int)) (hK : KK E A s s.heap) (hA : ∀ q, s.heap.size ≤ q → A q) (hret : RetI p l e (RM 6) s m args below meth c Q E A cX4_minutes .int (w_X4_minutes E p_this p_script p_told p_draft p_course p_trial p_imageZero p_imageOne p_ledDoughs p_ledOvens p_rowSearch p_course_rows p_told_ovenNumbers p_told_doughNumbers v_keptImages v_ledCount v_traceSum res.2.1 v_told_ovenCount v_told_doughCount res.2.2 f_told_ovenNumbers f_told_doughNumbers) res.1)  : ∀ (n : Nat) (v_course_knownSteps : Int32) (f_course_rows : Nat → Int32) (x1 : Int32) (x2 : Int32) (x3 : Int32), f_X4_minutes_57 v_told_ovenCount v_told_doughCount f_told_ovenNumbers f_told_doughNumbers   n v_course_knownSteps f_course_rows x1 x2 x3 = some res → ∀ (H : Heap) (locs : List Loc) (ls : Array Slot), lv_has ls 4 [(0, .ref p_this), (1, .int x1), (2, .int x2), (3, .int x3)] → va_P E.1 classes (w_X4_minutes E p_this p_script p_told p_draft p_course p_trial p_imageZero p_imageOne p_ledDoughs p_ledOvens p_rowSearch p_course_rows p_told_ovenNumbers p_told_doughNumbers v_keptImages v_ledCount v_traceSum v_course_knownSteps v_told_ovenCount v_told_doughCount f_course_rows f_told_ovenNumbers f_told_doughNumbers) H → va_D A (w_X4_minutes E p_this p_script p_told p_draft p_course p_trial p_imageZero p_imageOne p_ledDoughs p_ledOvens p_rowSearch p_course_rows p_told_ovenNumbers p_told_doughNumbers v_keptImages v_ledCount v_traceSum v_course_knownSteps v_told_ovenCount v_told_doughCount f_course_rows f_told_ovenNumbers f_told_doughNumbers) → va_S A s.heap H locs → W p l e (RM 6) s m args below meth c H locs 0 0 Q (F0 m 57 ls []) := by
  obtain ⟨hx, hb, hml, hown, hts, hrt, hlk⟩ := id X
  intro n
  induction n with
  | zero => intro v_course_knownSteps f_course_rows x1 x2 x3 hf; exact absurd hf (by simp [f_X4_minutes_57])
  | succ n ih =>
    intro v_course_knownSteps f_course_rows x1 x2 x3 hf H locs ls hl hP hD hS
    unfold f_X4_minutes_57 at hf
    refine lv_iload_n hx hb dX4_minutes_57 rfl (lv_at hl 3 rfl) ?_
    refine lv_iload_n hx hb dX4_minutes_58 rfl (lv_at hl 1 rfl) ?_
    refine lv_icmp_ge (tgt := 79) hx hb dX4_minutes_59 (by decide) (fun c_1 => ?_) (fun c_1 => ?_)
    · replace hf := ot c_1 hf
      refine lv_aload_n hx hb dX4_minutes_79 rfl (lv_at hl 0 rfl) ?_
      refine gf_RX4_29 X hK hP 0 rfl rfl dX4_minutes_80 ?_
      refine lv_aload_n hx hb dX4_minutes_83 rfl (lv_at hl 0 rfl) ?_
      refine gf_RX4_19 X hK hP 0 rfl rfl dX4_minutes_84 ?_
      refine lv_bipush (v := (-5 : Int32)) hx hb dX4_minutes_87 (by decide) ?_
      obtain ⟨u_2, hu_2, hf⟩ := ob hf
      refine pV X hK hA hP hS hl.1 (m_X0_placedAt (l := l) E p_course p_course_rows p_told p_told_ovenNumbers p_told_doughNumbers v_course_knownSteps v_told_ovenCount v_told_doughCount f_course_rows (-5 : Int32) u_2 hu_2) kRX4_89 [1, 3, 2] rfl rfl rfl rfl ⟨⟨(Nat.le_of_ble_eq_true rfl), (Nat.le_of_ble_eq_true rfl)⟩, Nat.zero_le _, Nat.zero_le _⟩ rfl rfl (Nat.le_of_ble_eq_true rfl) dX4_minutes_89 (fun H locs hP hS => ?_)
      obtain ⟨u_3, hu_3, hf⟩ := ob hf
      refine pS X hK hA hP hS hl.1 (m_J6_bitCount_0f7a4 (l := l) E   u_2 u_3 hu_3) kRX4_132 ⟨⟨(Nat.le_of_ble_eq_true rfl), (Nat.le_of_ble_eq_true rfl)⟩, Nat.zero_le _, Nat.zero_le _⟩ rfl rfl (Nat.le_of_ble_eq_true rfl) dX4_minutes_92 (fun H locs hP hS => ?_)
      refine lv_iload_n hx hb dX4_minutes_95 rfl (lv_at hl 2 rfl) ?_
      refine lv_isub hx hb dX4_minutes_96 ?_
      obtain rfl := Option.some.inj hf
      exact hret H locs _ ls rfl hP hS dX4_minutes_97
    · replace hf := of c_1 hf
      refine lv_aload_n hx hb dX4_minutes_62 rfl (lv_at hl 0 rfl) ?_
      refine gf_RX4_29 X hK hP 0 rfl rfl dX4_minutes_63 ?_
      refine lv_aload_n hx hb dX4_minutes_66 rfl (lv_at hl 0 rfl) ?_
      refine gf_RX4_19 X hK hP 0 rfl rfl dX4_minutes_67 ?_
      obtain ⟨u_4, hu_4, hf⟩ := ob hf
      refine mVv X hK hA hP hD hS hl.1 (m_X0_passMinute (l := l) E p_course p_course_rows p_told p_told_ovenNumbers p_told_doughNumbers v_course_knownSteps v_told_ovenCount v_told_doughCount f_course_rows f_told_ovenNumbers f_told_doughNumbers  u_4 hu_4) kRX4_140 [1, 2, 3, 4, 5] rfl rfl (by simp only [w_X0_passMinute, List.map]) rfl rfl rfl ⟨⟨(Nat.le_of_ble_eq_true rfl), (Nat.le_of_ble_eq_true rfl)⟩, Nat.zero_le _, Nat.zero_le _⟩ rfl rfl (Nat.le_of_ble_eq_true rfl) dX4_minutes_70 (fun H locs hP hD hS => ?_)
      have hP : va_P E.1 classes (w_X4_minutes E p_this p_script p_told p_draft p_course p_trial p_imageZero p_imageOne p_ledDoughs p_ledOvens p_rowSearch p_course_rows p_told_ovenNumbers p_told_doughNumbers v_keptImages v_ledCount v_traceSum v_course_knownSteps v_told_ovenCount v_told_doughCount u_4 f_told_ovenNumbers f_told_doughNumbers) H := hP
      have hD : va_D A (w_X4_minutes E p_this p_script p_told p_draft p_course p_trial p_imageZero p_imageOne p_ledDoughs p_ledOvens p_rowSearch p_course_rows p_told_ovenNumbers p_told_doughNumbers v_keptImages v_ledCount v_traceSum v_course_knownSteps v_told_ovenCount v_told_doughCount u_4 f_told_ovenNumbers f_told_doughNumbers) := hD
      refine lv_iinc (v := (x3 + (1 : Int32))) (lv' := [(3, .int (x3 + (1 : Int32))), (0, .ref p_this), (1, .int x1), (2, .int x2)]) hx hb dX4_minutes_73 hl (k := 3) rfl rfl (by decide) rfl (fun ls hl => ?_)
      refine lv_goto (tgt := 57) hx hb dX4_minutes_76 (by decide) ?_
      exact ih v_course_knownSteps u_4 x1 x2 (x3 + (1 : Int32)) hf H locs ls (lv_sub hl [1, 2, 3, 0] rfl) hP hD hS

set_option maxHeartbeats 4000000 in
set_option maxRecDepth 100000 in
theorem m_X4_minutes {l : Launch} (E : Ev) (p_this : Nat) (p_script : Nat) (p_told : Nat) (p_draft : Nat) (p_course : Nat) (p_trial : Nat) (p_imageZero : Nat) (p_imageOne : Nat) (p_ledDoughs : Nat) (p_ledOvens : Nat) (p_rowSearch : Nat) (p_course_rows : Nat) (p_told_ovenNumbers : Nat) (p_told_doughNumbers : Nat) (v_keptImages : Int32) (v_ledCount : Int32) (v_traceSum : Int64) (v_course_knownSteps : Int32) (v_told_ovenCount : Int32) (v_told_doughCount : Int32) (f_course_rows : Nat → Int32) (f_told_ovenNumbers : Nat → Int32) (f_told_doughNumbers : Nat → Int32) (x1 : Int32) (res : Int32 × Int32 × (Nat → Int32)) (hf : f_X4_minutes  v_told_ovenCount v_told_doughCount f_told_ovenNumbers f_told_doughNumbers v_course_knownSteps f_course_rows x1 = some res) : MutI l E 6 yX4_minutes cX4_minutes 4 .int [.ref p_this, .int x1] (w_X4_minutes E p_this p_script p_told p_draft p_course p_trial p_imageZero p_imageOne p_ledDoughs p_ledOvens p_rowSearch p_course_rows p_told_ovenNumbers p_told_doughNumbers v_keptImages v_ledCount v_traceSum v_course_knownSteps v_told_ovenCount v_told_doughCount f_course_rows f_told_ovenNumbers f_told_doughNumbers) (w_X4_minutes E p_this p_script p_told p_draft p_course p_trial p_imageZero p_imageOne p_ledDoughs p_ledOvens p_rowSearch p_course_rows p_told_ovenNumbers p_told_doughNumbers v_keptImages v_ledCount v_traceSum res.2.1 v_told_ovenCount v_told_doughCount res.2.2 f_told_ovenNumbers f_told_doughNumbers) res.1 := by
  refine MutI.of (by decide) (Nat.le_of_ble_eq_true rfl) ?_
  intro p e s m args below meth c Q A X hK hA hret H locs ls hl hP hD hS
  obtain ⟨hx, hb, hml, hown, hts, hrt, hlk⟩ := id X
  have hl : lv_has ls 4 [(0, .ref p_this), (1, .int x1)] := hl
  unfold f_X4_minutes at hf
  refine lv_iload_n hx hb dX4_minutes_0 rfl (lv_at hl 1 rfl) ?_
  refine lv_iconst (v := (1 : Int32)) hx hb dX4_minutes_1 (by decide) ?_
  refine lv_icmp_lt (tgt := 11) hx hb dX4_minutes_2 (by decide) (fun c_1 => ?_) (fun c_1 => ?_)
  · replace hf := ot c_1 hf
    refine lv_iconst (v := (-1 : Int32)) hx hb dX4_minutes_11 (by decide) ?_
    obtain rfl := Option.some.inj hf
    exact hret H locs _ ls rfl hP hS dX4_minutes_12
  · replace hf := of c_1 hf
    refine lv_iload_n hx hb dX4_minutes_5 rfl (lv_at hl 1 rfl) ?_
    refine lv_bipush (v := (60 : Int32)) hx hb dX4_minutes_6 (by decide) ?_
    refine lv_icmp_le (tgt := 13) hx hb dX4_minutes_8 (by decide) (fun c_2 => ?_) (fun c_2 => ?_)
    · replace hf := ot c_2 hf
      refine lv_aload_n hx hb dX4_minutes_13 rfl (lv_at hl 0 rfl) ?_
      refine gf_RX4_29 X hK hP 0 rfl rfl dX4_minutes_14 ?_
      obtain ⟨u_3, hu_3, hf⟩ := ob hf
      refine pV X hK hA hP hS hl.1 (m_X0_minute (l := l) E p_course p_course_rows v_course_knownSteps f_course_rows  u_3 hu_3) kRX4_137 [1, 2] rfl rfl rfl rfl ⟨⟨(Nat.le_of_ble_eq_true rfl), (Nat.le_of_ble_eq_true rfl)⟩, Nat.zero_le _, Nat.zero_le _⟩ rfl rfl (Nat.le_of_ble_eq_true rfl) dX4_minutes_17 (fun H locs hP hS => ?_)
      refine lv_iload_n hx hb dX4_minutes_20 rfl (lv_at hl 1 rfl) ?_
      refine lv_iadd hx hb dX4_minutes_21 ?_
      refine lv_sipush (v := (999 : Int32)) hx hb dX4_minutes_22 (by decide) ?_
      refine lv_icmp_le (tgt := 31) hx hb dX4_minutes_25 (by decide) (fun c_4 => ?_) (fun c_4 => ?_)
      · replace hf := ot c_4 hf
        refine lv_aload_n hx hb dX4_minutes_31 rfl (lv_at hl 0 rfl) ?_
        refine gf_RX4_29 X hK hP 0 rfl rfl dX4_minutes_32 ?_
        refine lv_aload_n hx hb dX4_minutes_35 rfl (lv_at hl 0 rfl) ?_
        refine gf_RX4_19 X hK hP 0 rfl rfl dX4_minutes_36 ?_
        refine lv_bipush (v := (-5 : Int32)) hx hb dX4_minutes_39 (by decide) ?_
        obtain ⟨u_5, hu_5, hf⟩ := ob hf
        refine pV X hK hA hP hS hl.1 (m_X0_placedAt (l := l) E p_course p_course_rows p_told p_told_ovenNumbers p_told_doughNumbers v_course_knownSteps v_told_ovenCount v_told_doughCount f_course_rows (-5 : Int32) u_5 hu_5) kRX4_89 [1, 3, 2] rfl rfl rfl rfl ⟨⟨(Nat.le_of_ble_eq_true rfl), (Nat.le_of_ble_eq_true rfl)⟩, Nat.zero_le _, Nat.zero_le _⟩ rfl rfl (Nat.le_of_ble_eq_true rfl) dX4_minutes_41 (fun H locs hP hS => ?_)
        obtain ⟨u_6, hu_6, hf⟩ := ob hf
        refine pS X hK hA hP hS hl.1 (m_J6_bitCount_0f7a4 (l := l) E   u_5 u_6 hu_6) kRX4_132 ⟨⟨(Nat.le_of_ble_eq_true rfl), (Nat.le_of_ble_eq_true rfl)⟩, Nat.zero_le _, Nat.zero_le _⟩ rfl rfl (Nat.le_of_ble_eq_true rfl) dX4_minutes_44 (fun H locs hP hS => ?_)
        refine lv_istore_n (lv' := [(2, .int u_6), (0, .ref p_this), (1, .int x1)]) hx hb dX4_minutes_47 rfl hl (by decide) rfl (fun ls hl => ?_)
        refine lv_aload_n hx hb dX4_minutes_48 rfl (lv_at hl 1 rfl) ?_
        refine gf_RX4_29 X hK hP 0 rfl rfl dX4_minutes_49 ?_
        obtain ⟨u_7, hu_7, hf⟩ := ob hf
        refine mVv X hK hA hP hD hS hl.1 (m_X0_remember (l := l) E p_course p_course_rows v_course_knownSteps f_course_rows  u_7 hu_7) kRX4_125 [1, 2] rfl rfl (by simp only [w_X0_remember, List.map]) rfl rfl rfl ⟨⟨(Nat.le_of_ble_eq_true rfl), (Nat.le_of_ble_eq_true rfl)⟩, Nat.zero_le _, Nat.zero_le _⟩ rfl rfl (Nat.le_of_ble_eq_true rfl) dX4_minutes_52 (fun H locs hP hD hS => ?_)
        have hP : va_P E.1 classes (w_X4_minutes E p_this p_script p_told p_draft p_course p_trial p_imageZero p_imageOne p_ledDoughs p_ledOvens p_rowSearch p_course_rows p_told_ovenNumbers p_told_doughNumbers v_keptImages v_ledCount v_traceSum u_7.1 v_told_ovenCount v_told_doughCount u_7.2 f_told_ovenNumbers f_told_doughNumbers) H := hP
        have hD : va_D A (w_X4_minutes E p_this p_script p_told p_draft p_course p_trial p_imageZero p_imageOne p_ledDoughs p_ledOvens p_rowSearch p_course_rows p_told_ovenNumbers p_told_doughNumbers v_keptImages v_ledCount v_traceSum u_7.1 v_told_ovenCount v_told_doughCount u_7.2 f_told_ovenNumbers f_told_doughNumbers) := hD
        refine lv_iconst (v := (0 : Int32)) hx hb dX4_minutes_55 (by decide) ?_
        refine lv_istore_n (lv' := [(3, .int (0 : Int32)), (2, .int u_6), (0, .ref p_this), (1, .int x1)]) hx hb dX4_minutes_56 rfl hl (by decide) rfl (fun ls hl => ?_)
        exact b_X4_minutes_57 E p_this p_script p_told p_draft p_course p_trial p_imageZero p_imageOne p_ledDoughs p_ledOvens p_rowSearch p_course_rows p_told_ovenNumbers p_told_doughNumbers v_keptImages v_ledCount v_traceSum v_told_ovenCount v_told_doughCount f_told_ovenNumbers f_told_doughNumbers res X hK hA hret   FU u_7.1 u_7.2 x1 u_6 (0 : Int32) hf H locs ls (lv_sub hl [2, 3, 1, 0] rfl) hP hD hS
      · replace hf := of c_4 hf
        refine lv_bipush (v := (-2 : Int32)) hx hb dX4_minutes_28 (by decide) ?_
        obtain rfl := Option.some.inj hf
        exact hret H locs _ ls rfl hP hS dX4_minutes_30
    · replace hf := of c_2 hf
      refine lv_iconst (v := (-1 : Int32)) hx hb dX4_minutes_11 (by decide) ?_
      obtain rfl := Option.some.inj hf
      exact hret H locs _ ls rfl hP hS dX4_minutes_12

